section
-- the tables' words (begun from the skeleton), names of classes, fields and methods: written by gen01.py
/-- a private method of a class that the tables say can be made, by its rows of tables_1 -/
def lw_okq (q : MethodName × Nat) : Prop := (q.1.cls ≠ "java/lang/invoke/MethodHandle" ∧ q.1.cls ≠ "java/lang/invoke/VarHandle") ∧ Cond.instantiable q.1.cls q.2 ∈ tables_1 ∧ Cond.privateMethod q.1 ∈ tables_1 ∧ Cond.instanceMethod q.1 ∈ tables_1
theorem lw_p0 : lw_okq (⟨"TextIndices", "languageOf", "(I)LTextIndices$Language;"⟩, 7) := ⟨⟨by decide +kernel, by decide +kernel⟩, List.mem_of_getElem? (i := 23) (by decide +kernel), List.mem_of_getElem? (i := 265) (by decide +kernel), List.mem_of_getElem? (i := 266) (by decide +kernel)⟩
theorem lw_p1 : lw_okq (⟨"TextIndices$Tape", "keepWord", "(II)V"⟩, 6) := ⟨⟨by decide +kernel, by decide +kernel⟩, List.mem_of_getElem? (i := 31) (by decide +kernel), List.mem_of_getElem? (i := 284) (by decide +kernel), List.mem_of_getElem? (i := 285) (by decide +kernel)⟩
theorem lw_p2 : lw_okq (⟨"TextIndices$Tape", "hasWord", "(I)Z"⟩, 6) := ⟨⟨by decide +kernel, by decide +kernel⟩, List.mem_of_getElem? (i := 31) (by decide +kernel), List.mem_of_getElem? (i := 312) (by decide +kernel), List.mem_of_getElem? (i := 313) (by decide +kernel)⟩
theorem lw_p3 : lw_okq (⟨"TextIndices", "takeFirstWord", "()J"⟩, 7) := ⟨⟨by decide +kernel, by decide +kernel⟩, List.mem_of_getElem? (i := 23) (by decide +kernel), List.mem_of_getElem? (i := 422) (by decide +kernel), List.mem_of_getElem? (i := 423) (by decide +kernel)⟩
theorem lw_p4 : lw_okq (⟨"TextIndices", "tell", "(J)I"⟩, 7) := ⟨⟨by decide +kernel, by decide +kernel⟩, List.mem_of_getElem? (i := 23) (by decide +kernel), List.mem_of_getElem? (i := 427) (by decide +kernel), List.mem_of_getElem? (i := 428) (by decide +kernel)⟩
theorem lw_p5 : lw_okq (⟨"TextIndices$Question", "skipBlanks", "()V"⟩, 9) := ⟨⟨by decide +kernel, by decide +kernel⟩, List.mem_of_getElem? (i := 122) (by decide +kernel), List.mem_of_getElem? (i := 444) (by decide +kernel), List.mem_of_getElem? (i := 445) (by decide +kernel)⟩
theorem lw_p6 : lw_okq (⟨"TextIndices$Question", "readPart", "()Z"⟩, 9) := ⟨⟨by decide +kernel, by decide +kernel⟩, List.mem_of_getElem? (i := 122) (by decide +kernel), List.mem_of_getElem? (i := 450) (by decide +kernel), List.mem_of_getElem? (i := 451) (by decide +kernel)⟩
theorem lw_p7 : lw_okq (⟨"TextIndices$Question", "readPhrase", "(Z)Z"⟩, 9) := ⟨⟨by decide +kernel, by decide +kernel⟩, List.mem_of_getElem? (i := 122) (by decide +kernel), List.mem_of_getElem? (i := 454) (by decide +kernel), List.mem_of_getElem? (i := 455) (by decide +kernel)⟩
theorem lw_p8 : lw_okq (⟨"java/util/ArrayList", "add", "(Ljava/lang/Object;[Ljava/lang/Object;I)V"⟩, 3) := ⟨⟨by decide +kernel, by decide +kernel⟩, List.mem_of_getElem? (i := 128) (by decide +kernel), List.mem_of_getElem? (i := 491) (by decide +kernel), List.mem_of_getElem? (i := 492) (by decide +kernel)⟩
theorem lw_p9 : lw_okq (⟨"java/util/ArrayList", "grow", "()[Ljava/lang/Object;"⟩, 3) := ⟨⟨by decide +kernel, by decide +kernel⟩, List.mem_of_getElem? (i := 128) (by decide +kernel), List.mem_of_getElem? (i := 495) (by decide +kernel), List.mem_of_getElem? (i := 496) (by decide +kernel)⟩
theorem lw_p10 : lw_okq (⟨"java/util/ArrayList", "grow", "(I)[Ljava/lang/Object;"⟩, 3) := ⟨⟨by decide +kernel, by decide +kernel⟩, List.mem_of_getElem? (i := 128) (by decide +kernel), List.mem_of_getElem? (i := 499) (by decide +kernel), List.mem_of_getElem? (i := 500) (by decide +kernel)⟩
theorem lw_p11 : lw_okq (⟨"TextIndices$Question", "readWord", "()J"⟩, 9) := ⟨⟨by decide +kernel, by decide +kernel⟩, List.mem_of_getElem? (i := 122) (by decide +kernel), List.mem_of_getElem? (i := 539) (by decide +kernel), List.mem_of_getElem? (i := 540) (by decide +kernel)⟩
theorem lw_p12 : lw_okq (⟨"TextIndices$Question", "seek", "(J)V"⟩, 9) := ⟨⟨by decide +kernel, by decide +kernel⟩, List.mem_of_getElem? (i := 122) (by decide +kernel), List.mem_of_getElem? (i := 545) (by decide +kernel), List.mem_of_getElem? (i := 546) (by decide +kernel)⟩
theorem lw_p13 : lw_okq (⟨"TextIndices$Question", "soughtBy", "(LTextIndices$Part;)J"⟩, 9) := ⟨⟨by decide +kernel, by decide +kernel⟩, List.mem_of_getElem? (i := 122) (by decide +kernel), List.mem_of_getElem? (i := 581) (by decide +kernel), List.mem_of_getElem? (i := 582) (by decide +kernel)⟩
theorem lw_p14 : lw_okq (⟨"TextIndices$Question", "hasTerm", "(J)Z"⟩, 9) := ⟨⟨by decide +kernel, by decide +kernel⟩, List.mem_of_getElem? (i := 122) (by decide +kernel), List.mem_of_getElem? (i := 585) (by decide +kernel), List.mem_of_getElem? (i := 586) (by decide +kernel)⟩
theorem lw_p15 : lw_okq (⟨"TextIndices$Question", "isPartAnsweredBy", "(LTextIndices$Part;LTextIndices$Shelf;I)Z"⟩, 9) := ⟨⟨by decide +kernel, by decide +kernel⟩, List.mem_of_getElem? (i := 122) (by decide +kernel), List.mem_of_getElem? (i := 607) (by decide +kernel), List.mem_of_getElem? (i := 608) (by decide +kernel)⟩
def lw_privs_1 : List (MethodName × Nat) := [(⟨"TextIndices", "languageOf", "(I)LTextIndices$Language;"⟩, 7), (⟨"TextIndices$Tape", "keepWord", "(II)V"⟩, 6), (⟨"TextIndices$Tape", "hasWord", "(I)Z"⟩, 6), (⟨"TextIndices", "takeFirstWord", "()J"⟩, 7), (⟨"TextIndices", "tell", "(J)I"⟩, 7), (⟨"TextIndices$Question", "skipBlanks", "()V"⟩, 9), (⟨"TextIndices$Question", "readPart", "()Z"⟩, 9), (⟨"TextIndices$Question", "readPhrase", "(Z)Z"⟩, 9), (⟨"java/util/ArrayList", "add", "(Ljava/lang/Object;[Ljava/lang/Object;I)V"⟩, 3), (⟨"java/util/ArrayList", "grow", "()[Ljava/lang/Object;"⟩, 3), (⟨"java/util/ArrayList", "grow", "(I)[Ljava/lang/Object;"⟩, 3), (⟨"TextIndices$Question", "readWord", "()J"⟩, 9), (⟨"TextIndices$Question", "seek", "(J)V"⟩, 9), (⟨"TextIndices$Question", "soughtBy", "(LTextIndices$Part;)J"⟩, 9), (⟨"TextIndices$Question", "hasTerm", "(J)Z"⟩, 9), (⟨"TextIndices$Question", "isPartAnsweredBy", "(LTextIndices$Part;LTextIndices$Shelf;I)Z"⟩, 9)]
theorem lw_r1 : ∀ q ∈ lw_privs_1, lw_okq q := List.forall_mem_cons.mpr ⟨lw_p0, List.forall_mem_cons.mpr ⟨lw_p1, List.forall_mem_cons.mpr ⟨lw_p2, List.forall_mem_cons.mpr ⟨lw_p3, List.forall_mem_cons.mpr ⟨lw_p4, List.forall_mem_cons.mpr ⟨lw_p5, List.forall_mem_cons.mpr ⟨lw_p6, List.forall_mem_cons.mpr ⟨lw_p7, List.forall_mem_cons.mpr ⟨lw_p8, List.forall_mem_cons.mpr ⟨lw_p9, List.forall_mem_cons.mpr ⟨lw_p10, List.forall_mem_cons.mpr ⟨lw_p11, List.forall_mem_cons.mpr ⟨lw_p12, List.forall_mem_cons.mpr ⟨lw_p13, List.forall_mem_cons.mpr ⟨lw_p14, List.forall_mem_cons.mpr ⟨lw_p15, fun _ h => absurd h List.not_mem_nil⟩⟩⟩⟩⟩⟩⟩⟩⟩⟩⟩⟩⟩⟩⟩⟩
theorem lw_p16 : lw_okq (⟨"TextIndices$Shelf", "standsAt", "(I[JII)Z"⟩, 10) := ⟨⟨by decide +kernel, by decide +kernel⟩, List.mem_of_getElem? (i := 84) (by decide +kernel), List.mem_of_getElem? (i := 615) (by decide +kernel), List.mem_of_getElem? (i := 616) (by decide +kernel)⟩
theorem lw_p17 : lw_okq (⟨"TextIndices$Answers", "has", "(I)Z"⟩, 3) := ⟨⟨by decide +kernel, by decide +kernel⟩, List.mem_of_getElem? (i := 182) (by decide +kernel), List.mem_of_getElem? (i := 649) (by decide +kernel), List.mem_of_getElem? (i := 650) (by decide +kernel)⟩
theorem lw_p18 : lw_okq (⟨"TextIndices$Likes", "offer", "(JI)V"⟩, 7) := ⟨⟨by decide +kernel, by decide +kernel⟩, List.mem_of_getElem? (i := 198) (by decide +kernel), List.mem_of_getElem? (i := 683) (by decide +kernel), List.mem_of_getElem? (i := 684) (by decide +kernel)⟩
theorem lw_p19 : lw_okq (⟨"TextIndices$Likes", "holds", "(J)Z"⟩, 7) := ⟨⟨by decide +kernel, by decide +kernel⟩, List.mem_of_getElem? (i := 198) (by decide +kernel), List.mem_of_getElem? (i := 687) (by decide +kernel), List.mem_of_getElem? (i := 688) (by decide +kernel)⟩
theorem lw_p20 : lw_okq (⟨"TextIndices$Likes", "changesNeeded", "(I)I"⟩, 7) := ⟨⟨by decide +kernel, by decide +kernel⟩, List.mem_of_getElem? (i := 198) (by decide +kernel), List.mem_of_getElem? (i := 691) (by decide +kernel), List.mem_of_getElem? (i := 692) (by decide +kernel)⟩
theorem lw_p21 : lw_okq (⟨"TextIndices$Likes", "insert", "(JI)V"⟩, 7) := ⟨⟨by decide +kernel, by decide +kernel⟩, List.mem_of_getElem? (i := 198) (by decide +kernel), List.mem_of_getElem? (i := 696) (by decide +kernel), List.mem_of_getElem? (i := 697) (by decide +kernel)⟩
theorem lw_p22 : lw_okq (⟨"TextIndices$Likes", "standsBefore", "(JII)Z"⟩, 7) := ⟨⟨by decide +kernel, by decide +kernel⟩, List.mem_of_getElem? (i := 198) (by decide +kernel), List.mem_of_getElem? (i := 700) (by decide +kernel), List.mem_of_getElem? (i := 701) (by decide +kernel)⟩
theorem lw_p23 : lw_okq (⟨"TextIndices$Shelf", "countNewStems", "(II)I"⟩, 10) := ⟨⟨by decide +kernel, by decide +kernel⟩, List.mem_of_getElem? (i := 84) (by decide +kernel), List.mem_of_getElem? (i := 756) (by decide +kernel), List.mem_of_getElem? (i := 757) (by decide +kernel)⟩
theorem lw_p24 : lw_okq (⟨"TextIndices$Shelf", "hasEarlier", "(III)Z"⟩, 10) := ⟨⟨by decide +kernel, by decide +kernel⟩, List.mem_of_getElem? (i := 84) (by decide +kernel), List.mem_of_getElem? (i := 760) (by decide +kernel), List.mem_of_getElem? (i := 761) (by decide +kernel)⟩
theorem lw_p25 : lw_okq (⟨"TextIndicesModel", "readWords", "()V"⟩, 33) := ⟨⟨by decide +kernel, by decide +kernel⟩, List.mem_of_getElem? (i := 764) (by decide +kernel), List.mem_of_getElem? (i := 883) (by decide +kernel), List.mem_of_getElem? (i := 884) (by decide +kernel)⟩
theorem lw_p26 : lw_okq (⟨"TextIndicesModel", "add", "(II)V"⟩, 33) := ⟨⟨by decide +kernel, by decide +kernel⟩, List.mem_of_getElem? (i := 764) (by decide +kernel), List.mem_of_getElem? (i := 890) (by decide +kernel), List.mem_of_getElem? (i := 891) (by decide +kernel)⟩
theorem lw_p27 : lw_okq (⟨"TextIndicesModel", "isStop", "(II)Z"⟩, 33) := ⟨⟨by decide +kernel, by decide +kernel⟩, List.mem_of_getElem? (i := 764) (by decide +kernel), List.mem_of_getElem? (i := 894) (by decide +kernel), List.mem_of_getElem? (i := 895) (by decide +kernel)⟩
theorem lw_p28 : lw_okq (⟨"TextIndicesModel", "same", "(II)Z"⟩, 33) := ⟨⟨by decide +kernel, by decide +kernel⟩, List.mem_of_getElem? (i := 764) (by decide +kernel), List.mem_of_getElem? (i := 898) (by decide +kernel), List.mem_of_getElem? (i := 899) (by decide +kernel)⟩
theorem lw_p29 : lw_okq (⟨"TextIndicesModel", "byteOf", "(II)I"⟩, 33) := ⟨⟨by decide +kernel, by decide +kernel⟩, List.mem_of_getElem? (i := 764) (by decide +kernel), List.mem_of_getElem? (i := 902) (by decide +kernel), List.mem_of_getElem? (i := 903) (by decide +kernel)⟩
theorem lw_p30 : lw_okq (⟨"TextIndicesModel", "copy", "(II)V"⟩, 33) := ⟨⟨by decide +kernel, by decide +kernel⟩, List.mem_of_getElem? (i := 764) (by decide +kernel), List.mem_of_getElem? (i := 906) (by decide +kernel), List.mem_of_getElem? (i := 907) (by decide +kernel)⟩
theorem lw_p31 : lw_okq (⟨"TextIndicesModel", "stemTo", "(III)V"⟩, 33) := ⟨⟨by decide +kernel, by decide +kernel⟩, List.mem_of_getElem? (i := 764) (by decide +kernel), List.mem_of_getElem? (i := 921) (by decide +kernel), List.mem_of_getElem? (i := 922) (by decide +kernel)⟩
def lw_privs_2 : List (MethodName × Nat) := [(⟨"TextIndices$Shelf", "standsAt", "(I[JII)Z"⟩, 10), (⟨"TextIndices$Answers", "has", "(I)Z"⟩, 3), (⟨"TextIndices$Likes", "offer", "(JI)V"⟩, 7), (⟨"TextIndices$Likes", "holds", "(J)Z"⟩, 7), (⟨"TextIndices$Likes", "changesNeeded", "(I)I"⟩, 7), (⟨"TextIndices$Likes", "insert", "(JI)V"⟩, 7), (⟨"TextIndices$Likes", "standsBefore", "(JII)Z"⟩, 7), (⟨"TextIndices$Shelf", "countNewStems", "(II)I"⟩, 10), (⟨"TextIndices$Shelf", "hasEarlier", "(III)Z"⟩, 10), (⟨"TextIndicesModel", "readWords", "()V"⟩, 33), (⟨"TextIndicesModel", "add", "(II)V"⟩, 33), (⟨"TextIndicesModel", "isStop", "(II)Z"⟩, 33), (⟨"TextIndicesModel", "same", "(II)Z"⟩, 33), (⟨"TextIndicesModel", "byteOf", "(II)I"⟩, 33), (⟨"TextIndicesModel", "copy", "(II)V"⟩, 33), (⟨"TextIndicesModel", "stemTo", "(III)V"⟩, 33)]
theorem lw_r2 : ∀ q ∈ lw_privs_2, lw_okq q := List.forall_mem_cons.mpr ⟨lw_p16, List.forall_mem_cons.mpr ⟨lw_p17, List.forall_mem_cons.mpr ⟨lw_p18, List.forall_mem_cons.mpr ⟨lw_p19, List.forall_mem_cons.mpr ⟨lw_p20, List.forall_mem_cons.mpr ⟨lw_p21, List.forall_mem_cons.mpr ⟨lw_p22, List.forall_mem_cons.mpr ⟨lw_p23, List.forall_mem_cons.mpr ⟨lw_p24, List.forall_mem_cons.mpr ⟨lw_p25, List.forall_mem_cons.mpr ⟨lw_p26, List.forall_mem_cons.mpr ⟨lw_p27, List.forall_mem_cons.mpr ⟨lw_p28, List.forall_mem_cons.mpr ⟨lw_p29, List.forall_mem_cons.mpr ⟨lw_p30, List.forall_mem_cons.mpr ⟨lw_p31, fun _ h => absurd h List.not_mem_nil⟩⟩⟩⟩⟩⟩⟩⟩⟩⟩⟩⟩⟩⟩⟩⟩
theorem lw_p32 : lw_okq (⟨"TextIndicesModel", "ends", "(II)Z"⟩, 33) := ⟨⟨by decide +kernel, by decide +kernel⟩, List.mem_of_getElem? (i := 764) (by decide +kernel), List.mem_of_getElem? (i := 925) (by decide +kernel), List.mem_of_getElem? (i := 926) (by decide +kernel)⟩
theorem lw_p33 : lw_okq (⟨"TextIndicesModel", "show", "(I)I"⟩, 33) := ⟨⟨by decide +kernel, by decide +kernel⟩, List.mem_of_getElem? (i := 764) (by decide +kernel), List.mem_of_getElem? (i := 929) (by decide +kernel), List.mem_of_getElem? (i := 930) (by decide +kernel)⟩
theorem lw_p34 : lw_okq (⟨"TextIndicesModel", "wordsOf", "(I)I"⟩, 33) := ⟨⟨by decide +kernel, by decide +kernel⟩, List.mem_of_getElem? (i := 764) (by decide +kernel), List.mem_of_getElem? (i := 941) (by decide +kernel), List.mem_of_getElem? (i := 942) (by decide +kernel)⟩
theorem lw_p35 : lw_okq (⟨"TextIndicesModel", "isText", "(I)Z"⟩, 33) := ⟨⟨by decide +kernel, by decide +kernel⟩, List.mem_of_getElem? (i := 764) (by decide +kernel), List.mem_of_getElem? (i := 949) (by decide +kernel), List.mem_of_getElem? (i := 950) (by decide +kernel)⟩
theorem lw_p36 : lw_okq (⟨"TextIndicesModel", "isFirst", "(III)Z"⟩, 33) := ⟨⟨by decide +kernel, by decide +kernel⟩, List.mem_of_getElem? (i := 764) (by decide +kernel), List.mem_of_getElem? (i := 965) (by decide +kernel), List.mem_of_getElem? (i := 966) (by decide +kernel)⟩
theorem lw_p37 : lw_okq (⟨"TextIndicesModel", "hasAt", "(IIIZ)Z"⟩, 33) := ⟨⟨by decide +kernel, by decide +kernel⟩, List.mem_of_getElem? (i := 764) (by decide +kernel), List.mem_of_getElem? (i := 969) (by decide +kernel), List.mem_of_getElem? (i := 970) (by decide +kernel)⟩
theorem lw_p38 : lw_okq (⟨"TextIndicesModel", "beginsSo", "(II)Z"⟩, 33) := ⟨⟨by decide +kernel, by decide +kernel⟩, List.mem_of_getElem? (i := 764) (by decide +kernel), List.mem_of_getElem? (i := 973) (by decide +kernel), List.mem_of_getElem? (i := 974) (by decide +kernel)⟩
theorem lw_p39 : lw_okq (⟨"TextIndicesModel", "readQuestion", "()I"⟩, 33) := ⟨⟨by decide +kernel, by decide +kernel⟩, List.mem_of_getElem? (i := 764) (by decide +kernel), List.mem_of_getElem? (i := 981) (by decide +kernel), List.mem_of_getElem? (i := 982) (by decide +kernel)⟩
theorem lw_p40 : lw_okq (⟨"TextIndicesModel", "skip", "()V"⟩, 33) := ⟨⟨by decide +kernel, by decide +kernel⟩, List.mem_of_getElem? (i := 764) (by decide +kernel), List.mem_of_getElem? (i := 985) (by decide +kernel), List.mem_of_getElem? (i := 986) (by decide +kernel)⟩
theorem lw_p41 : lw_okq (⟨"TextIndicesModel", "here", "()I"⟩, 33) := ⟨⟨by decide +kernel, by decide +kernel⟩, List.mem_of_getElem? (i := 764) (by decide +kernel), List.mem_of_getElem? (i := 989) (by decide +kernel), List.mem_of_getElem? (i := 990) (by decide +kernel)⟩
theorem lw_p42 : lw_okq (⟨"TextIndicesModel", "isPart", "()Z"⟩, 33) := ⟨⟨by decide +kernel, by decide +kernel⟩, List.mem_of_getElem? (i := 764) (by decide +kernel), List.mem_of_getElem? (i := 993) (by decide +kernel), List.mem_of_getElem? (i := 994) (by decide +kernel)⟩
theorem lw_p43 : lw_okq (⟨"TextIndicesModel", "isLetter", "()Z"⟩, 33) := ⟨⟨by decide +kernel, by decide +kernel⟩, List.mem_of_getElem? (i := 764) (by decide +kernel), List.mem_of_getElem? (i := 997) (by decide +kernel), List.mem_of_getElem? (i := 998) (by decide +kernel)⟩
theorem lw_p44 : lw_okq (⟨"TextIndicesModel", "need", "(Z)V"⟩, 33) := ⟨⟨by decide +kernel, by decide +kernel⟩, List.mem_of_getElem? (i := 764) (by decide +kernel), List.mem_of_getElem? (i := 1001) (by decide +kernel), List.mem_of_getElem? (i := 1002) (by decide +kernel)⟩
theorem lw_p45 : lw_okq (⟨"TextIndicesModel", "readPart", "(I)V"⟩, 33) := ⟨⟨by decide +kernel, by decide +kernel⟩, List.mem_of_getElem? (i := 764) (by decide +kernel), List.mem_of_getElem? (i := 1005) (by decide +kernel), List.mem_of_getElem? (i := 1006) (by decide +kernel)⟩
theorem lw_p46 : lw_okq (⟨"TextIndicesModel", "readWord", "()V"⟩, 33) := ⟨⟨by decide +kernel, by decide +kernel⟩, List.mem_of_getElem? (i := 764) (by decide +kernel), List.mem_of_getElem? (i := 1009) (by decide +kernel), List.mem_of_getElem? (i := 1010) (by decide +kernel)⟩
theorem lw_p47 : lw_okq (⟨"TextIndicesModel", "countStems", "(I)I"⟩, 33) := ⟨⟨by decide +kernel, by decide +kernel⟩, List.mem_of_getElem? (i := 764) (by decide +kernel), List.mem_of_getElem? (i := 1013) (by decide +kernel), List.mem_of_getElem? (i := 1014) (by decide +kernel)⟩
def lw_privs_3 : List (MethodName × Nat) := [(⟨"TextIndicesModel", "ends", "(II)Z"⟩, 33), (⟨"TextIndicesModel", "show", "(I)I"⟩, 33), (⟨"TextIndicesModel", "wordsOf", "(I)I"⟩, 33), (⟨"TextIndicesModel", "isText", "(I)Z"⟩, 33), (⟨"TextIndicesModel", "isFirst", "(III)Z"⟩, 33), (⟨"TextIndicesModel", "hasAt", "(IIIZ)Z"⟩, 33), (⟨"TextIndicesModel", "beginsSo", "(II)Z"⟩, 33), (⟨"TextIndicesModel", "readQuestion", "()I"⟩, 33), (⟨"TextIndicesModel", "skip", "()V"⟩, 33), (⟨"TextIndicesModel", "here", "()I"⟩, 33), (⟨"TextIndicesModel", "isPart", "()Z"⟩, 33), (⟨"TextIndicesModel", "isLetter", "()Z"⟩, 33), (⟨"TextIndicesModel", "need", "(Z)V"⟩, 33), (⟨"TextIndicesModel", "readPart", "(I)V"⟩, 33), (⟨"TextIndicesModel", "readWord", "()V"⟩, 33), (⟨"TextIndicesModel", "countStems", "(I)I"⟩, 33)]
theorem lw_r3 : ∀ q ∈ lw_privs_3, lw_okq q := List.forall_mem_cons.mpr ⟨lw_p32, List.forall_mem_cons.mpr ⟨lw_p33, List.forall_mem_cons.mpr ⟨lw_p34, List.forall_mem_cons.mpr ⟨lw_p35, List.forall_mem_cons.mpr ⟨lw_p36, List.forall_mem_cons.mpr ⟨lw_p37, List.forall_mem_cons.mpr ⟨lw_p38, List.forall_mem_cons.mpr ⟨lw_p39, List.forall_mem_cons.mpr ⟨lw_p40, List.forall_mem_cons.mpr ⟨lw_p41, List.forall_mem_cons.mpr ⟨lw_p42, List.forall_mem_cons.mpr ⟨lw_p43, List.forall_mem_cons.mpr ⟨lw_p44, List.forall_mem_cons.mpr ⟨lw_p45, List.forall_mem_cons.mpr ⟨lw_p46, List.forall_mem_cons.mpr ⟨lw_p47, fun _ h => absurd h List.not_mem_nil⟩⟩⟩⟩⟩⟩⟩⟩⟩⟩⟩⟩⟩⟩⟩⟩
theorem lw_p48 : lw_okq (⟨"TextIndicesModel", "isAsked", "(III)Z"⟩, 33) := ⟨⟨by decide +kernel, by decide +kernel⟩, List.mem_of_getElem? (i := 764) (by decide +kernel), List.mem_of_getElem? (i := 1017) (by decide +kernel), List.mem_of_getElem? (i := 1018) (by decide +kernel)⟩
theorem lw_p49 : lw_okq (⟨"TextIndicesModel", "answersRow", "(II)Z"⟩, 33) := ⟨⟨by decide +kernel, by decide +kernel⟩, List.mem_of_getElem? (i := 764) (by decide +kernel), List.mem_of_getElem? (i := 1021) (by decide +kernel), List.mem_of_getElem? (i := 1022) (by decide +kernel)⟩
theorem lw_p50 : lw_okq (⟨"TextIndicesModel", "answersPart", "(II)Z"⟩, 33) := ⟨⟨by decide +kernel, by decide +kernel⟩, List.mem_of_getElem? (i := 764) (by decide +kernel), List.mem_of_getElem? (i := 1025) (by decide +kernel), List.mem_of_getElem? (i := 1026) (by decide +kernel)⟩
theorem lw_p51 : lw_okq (⟨"TextIndicesModel", "hasPhrase", "(II)Z"⟩, 33) := ⟨⟨by decide +kernel, by decide +kernel⟩, List.mem_of_getElem? (i := 764) (by decide +kernel), List.mem_of_getElem? (i := 1029) (by decide +kernel), List.mem_of_getElem? (i := 1030) (by decide +kernel)⟩
theorem lw_p52 : lw_okq (⟨"TextIndicesModel", "times", "(IIZ)I"⟩, 33) := ⟨⟨by decide +kernel, by decide +kernel⟩, List.mem_of_getElem? (i := 764) (by decide +kernel), List.mem_of_getElem? (i := 1033) (by decide +kernel), List.mem_of_getElem? (i := 1034) (by decide +kernel)⟩
theorem lw_p53 : lw_okq (⟨"TextIndicesModel", "scoreOf", "(IIII)J"⟩, 33) := ⟨⟨by decide +kernel, by decide +kernel⟩, List.mem_of_getElem? (i := 764) (by decide +kernel), List.mem_of_getElem? (i := 1037) (by decide +kernel), List.mem_of_getElem? (i := 1038) (by decide +kernel)⟩
theorem lw_p54 : lw_okq (⟨"TextIndicesModel", "distance", "(II)I"⟩, 33) := ⟨⟨by decide +kernel, by decide +kernel⟩, List.mem_of_getElem? (i := 764) (by decide +kernel), List.mem_of_getElem? (i := 1054) (by decide +kernel), List.mem_of_getElem? (i := 1055) (by decide +kernel)⟩
theorem lw_p55 : lw_okq (⟨"TextIndicesModel", "isLiked", "(I)Z"⟩, 33) := ⟨⟨by decide +kernel, by decide +kernel⟩, List.mem_of_getElem? (i := 764) (by decide +kernel), List.mem_of_getElem? (i := 1058) (by decide +kernel), List.mem_of_getElem? (i := 1059) (by decide +kernel)⟩
theorem lw_p56 : lw_okq (⟨"TextIndicesModel", "isBefore", "(II)Z"⟩, 33) := ⟨⟨by decide +kernel, by decide +kernel⟩, List.mem_of_getElem? (i := 764) (by decide +kernel), List.mem_of_getElem? (i := 1062) (by decide +kernel), List.mem_of_getElem? (i := 1063) (by decide +kernel)⟩
def lw_privs_4 : List (MethodName × Nat) := [(⟨"TextIndicesModel", "isAsked", "(III)Z"⟩, 33), (⟨"TextIndicesModel", "answersRow", "(II)Z"⟩, 33), (⟨"TextIndicesModel", "answersPart", "(II)Z"⟩, 33), (⟨"TextIndicesModel", "hasPhrase", "(II)Z"⟩, 33), (⟨"TextIndicesModel", "times", "(IIZ)I"⟩, 33), (⟨"TextIndicesModel", "scoreOf", "(IIII)J"⟩, 33), (⟨"TextIndicesModel", "distance", "(II)I"⟩, 33), (⟨"TextIndicesModel", "isLiked", "(I)Z"⟩, 33), (⟨"TextIndicesModel", "isBefore", "(II)Z"⟩, 33)]
theorem lw_r4 : ∀ q ∈ lw_privs_4, lw_okq q := List.forall_mem_cons.mpr ⟨lw_p48, List.forall_mem_cons.mpr ⟨lw_p49, List.forall_mem_cons.mpr ⟨lw_p50, List.forall_mem_cons.mpr ⟨lw_p51, List.forall_mem_cons.mpr ⟨lw_p52, List.forall_mem_cons.mpr ⟨lw_p53, List.forall_mem_cons.mpr ⟨lw_p54, List.forall_mem_cons.mpr ⟨lw_p55, List.forall_mem_cons.mpr ⟨lw_p56, fun _ h => absurd h List.not_mem_nil⟩⟩⟩⟩⟩⟩⟩⟩⟩
def lw_privs : List (MethodName × Nat) := lw_privs_1 ++ (lw_privs_2 ++ (lw_privs_3 ++ (lw_privs_4)))
def lw_tbl : List Cond := k2_sels lw_privs ++ tables_1
theorem lw_privs_ok : ∀ q ∈ lw_privs, lw_okq q := by
  show ∀ q ∈ lw_privs_1 ++ (lw_privs_2 ++ (lw_privs_3 ++ (lw_privs_4))), lw_okq q
  exact List.forall_mem_append.mpr ⟨lw_r1, List.forall_mem_append.mpr ⟨lw_r2, List.forall_mem_append.mpr ⟨lw_r3, lw_r4⟩⟩⟩
def F_TI : u_T := fun k => match k with
  | 0 => ("TextIndices", "tape", "LTextIndices$Tape;", true)
  | 1 => ("TextIndices", "languages", "[LTextIndices$Language;", true)
  | 2 => ("TextIndices", "shelf", "LTextIndices$Shelf;", true)
  | 3 => ("TextIndices", "question", "LTextIndices$Question;", true)
  | 4 => ("TextIndices", "answers", "LTextIndices$Answers;", true)
  | 5 => ("TextIndices", "likes", "LTextIndices$Likes;", true)
  | _ => ("TextIndices", "told", "J", false)
def ty_TI : Nat → FieldType := fun k => match k with
  | 0 => .object "TextIndices$Tape"
  | 1 => .array (.object "TextIndices$Language")
  | 2 => .object "TextIndices$Shelf"
  | 3 => .object "TextIndices$Question"
  | 4 => .object "TextIndices$Answers"
  | 5 => .object "TextIndices$Likes"
  | _ => .long
theorem nm_TI : ∀ a, a < 7 → ∀ b, b < 7 → a ≠ b → (F_TI a).2.1 ≠ (F_TI b).2.1 := by decide +kernel
theorem tyok_TI : ∀ k, k < 7 → parseFieldDescriptor (F_TI k).2.2.1 = some (ty_TI k) := by decide +kernel
def F_Ta : u_T := fun k => match k with
  | 0 => ("TextIndices$Tape", "symbols", "[I", true)
  | 1 => ("TextIndices$Tape", "length", "I", false)
  | 2 => ("TextIndices$Tape", "words", "[J", true)
  | 3 => ("TextIndices$Tape", "starts", "[I", true)
  | 4 => ("TextIndices$Tape", "sizes", "[I", true)
  | _ => ("TextIndices$Tape", "found", "I", false)
def ty_Ta : Nat → FieldType := fun k => match k with
  | 0 => .array .int
  | 1 => .int
  | 2 => .array .long
  | 3 => .array .int
  | 4 => .array .int
  | _ => .int
theorem nm_Ta : ∀ a, a < 6 → ∀ b, b < 6 → a ≠ b → (F_Ta a).2.1 ≠ (F_Ta b).2.1 := by decide +kernel
theorem tyok_Ta : ∀ k, k < 6 → parseFieldDescriptor (F_Ta k).2.2.1 = some (ty_Ta k) := by decide +kernel
def F_La : u_T := fun k => match k with
  | 0 => ("TextIndices$Language", "number", "I", true)
  | 1 => ("TextIndices$Language", "endings", "[J", true)
  | 2 => ("TextIndices$Language", "insteads", "[J", true)
  | 3 => ("TextIndices$Language", "rules", "I", false)
  | 4 => ("TextIndices$Language", "stops", "[J", false)
  | _ => ("TextIndices$Language", "stopCount", "I", false)
def ty_La : Nat → FieldType := fun k => match k with
  | 0 => .int
  | 1 => .array .long
  | 2 => .array .long
  | 3 => .int
  | 4 => .array .long
  | _ => .int
theorem nm_La : ∀ a, a < 6 → ∀ b, b < 6 → a ≠ b → (F_La a).2.1 ≠ (F_La b).2.1 := by decide +kernel
theorem tyok_La : ∀ k, k < 6 → parseFieldDescriptor (F_La k).2.2.1 = some (ty_La k) := by decide +kernel
def F_Sh : u_T := fun k => match k with
  | 0 => ("TextIndices$Shelf", "tongues", "[I", true)
  | 1 => ("TextIndices$Shelf", "fields", "[I", true)
  | 2 => ("TextIndices$Shelf", "gone", "[Z", true)
  | 3 => ("TextIndices$Shelf", "firsts", "[I", true)
  | 4 => ("TextIndices$Shelf", "count", "I", false)
  | 5 => ("TextIndices$Shelf", "words", "[J", true)
  | 6 => ("TextIndices$Shelf", "stems", "[J", true)
  | 7 => ("TextIndices$Shelf", "starts", "[I", true)
  | 8 => ("TextIndices$Shelf", "sizes", "[I", true)
  | _ => ("TextIndices$Shelf", "wordCount", "I", false)
def ty_Sh : Nat → FieldType := fun k => match k with
  | 0 => .array .int
  | 1 => .array .int
  | 2 => .array .boolean
  | 3 => .array .int
  | 4 => .int
  | 5 => .array .long
  | 6 => .array .long
  | 7 => .array .int
  | 8 => .array .int
  | _ => .int
theorem nm_Sh : ∀ a, a < 10 → ∀ b, b < 10 → a ≠ b → (F_Sh a).2.1 ≠ (F_Sh b).2.1 := by decide +kernel
theorem tyok_Sh : ∀ k, k < 10 → parseFieldDescriptor (F_Sh k).2.2.1 = some (ty_Sh k) := by decide +kernel
def F_Qu : u_T := fun k => match k with
  | 0 => ("TextIndices$Question", "tape", "LTextIndices$Tape;", true)
  | 1 => ("TextIndices$Question", "parts", "Ljava/util/ArrayList;", true)
  | 2 => ("TextIndices$Question", "sought", "[J", true)
  | 3 => ("TextIndices$Question", "soughtCount", "I", false)
  | 4 => ("TextIndices$Question", "terms", "[J", true)
  | 5 => ("TextIndices$Question", "shares", "[J", true)
  | 6 => ("TextIndices$Question", "termCount", "I", false)
  | 7 => ("TextIndices$Question", "place", "I", false)
  | _ => ("TextIndices$Question", "row", "I", false)
def ty_Qu : Nat → FieldType := fun k => match k with
  | 0 => .object "TextIndices$Tape"
  | 1 => .object "java/util/ArrayList"
  | 2 => .array .long
  | 3 => .int
  | 4 => .array .long
  | 5 => .array .long
  | 6 => .int
  | 7 => .int
  | _ => .int
theorem nm_Qu : ∀ a, a < 9 → ∀ b, b < 9 → a ≠ b → (F_Qu a).2.1 ≠ (F_Qu b).2.1 := by decide +kernel
theorem tyok_Qu : ∀ k, k < 9 → parseFieldDescriptor (F_Qu k).2.2.1 = some (ty_Qu k) := by decide +kernel
def F_AL : u_T := fun k => match k with
  | 0 => ("java/util/AbstractList", "modCount", "I", false)
  | 1 => ("java/util/ArrayList", "elementData", "[Ljava/lang/Object;", false)
  | _ => ("java/util/ArrayList", "size", "I", false)
def ty_AL : Nat → FieldType := fun k => match k with
  | 0 => .int
  | 1 => .array (.object "java/lang/Object")
  | _ => .int
theorem nm_AL : ∀ a, a < 3 → ∀ b, b < 3 → a ≠ b → (F_AL a).2.1 ≠ (F_AL b).2.1 := by decide +kernel
theorem tyok_AL : ∀ k, k < 3 → parseFieldDescriptor (F_AL k).2.2.1 = some (ty_AL k) := by decide +kernel
def F_An : u_T := fun k => match k with
  | 0 => ("TextIndices$Answers", "numbers", "[I", true)
  | 1 => ("TextIndices$Answers", "weights", "[J", true)
  | _ => ("TextIndices$Answers", "count", "I", false)
def ty_An : Nat → FieldType := fun k => match k with
  | 0 => .array .int
  | 1 => .array .long
  | _ => .int
theorem nm_An : ∀ a, a < 3 → ∀ b, b < 3 → a ≠ b → (F_An a).2.1 ≠ (F_An b).2.1 := by decide +kernel
theorem tyok_An : ∀ k, k < 3 → parseFieldDescriptor (F_An k).2.2.1 = some (ty_An k) := by decide +kernel
def F_Li : u_T := fun k => match k with
  | 0 => ("TextIndices$Likes", "words", "[J", true)
  | 1 => ("TextIndices$Likes", "changes", "[I", true)
  | 2 => ("TextIndices$Likes", "count", "I", false)
  | 3 => ("TextIndices$Likes", "model", "[I", true)
  | 4 => ("TextIndices$Likes", "modelLength", "I", false)
  | 5 => ("TextIndices$Likes", "other", "[I", true)
  | _ => ("TextIndices$Likes", "costs", "[I", true)
def ty_Li : Nat → FieldType := fun k => match k with
  | 0 => .array .long
  | 1 => .array .int
  | 2 => .int
  | 3 => .array .int
  | 4 => .int
  | 5 => .array .int
  | _ => .array .int
theorem nm_Li : ∀ a, a < 7 → ∀ b, b < 7 → a ≠ b → (F_Li a).2.1 ≠ (F_Li b).2.1 := by decide +kernel
theorem tyok_Li : ∀ k, k < 7 → parseFieldDescriptor (F_Li k).2.2.1 = some (ty_Li k) := by decide +kernel
def F_Mo : u_T := fun k => match k with
  | 0 => ("TextIndicesModel", "bytes", "[B", true)
  | 1 => ("TextIndicesModel", "lengths", "[I", true)
  | 2 => ("TextIndicesModel", "tape", "[B", true)
  | 3 => ("TextIndicesModel", "size", "I", false)
  | 4 => ("TextIndicesModel", "languages", "[I", true)
  | 5 => ("TextIndicesModel", "fields", "[I", true)
  | 6 => ("TextIndicesModel", "counts", "[I", true)
  | 7 => ("TextIndicesModel", "froms", "[I", true)
  | 8 => ("TextIndicesModel", "fulls", "[I", true)
  | 9 => ("TextIndicesModel", "texts", "I", false)
  | 10 => ("TextIndicesModel", "gone", "I", false)
  | 11 => ("TextIndicesModel", "stopLanguages", "[I", true)
  | 12 => ("TextIndicesModel", "stops", "I", false)
  | 13 => ("TextIndicesModel", "rules", "[I", true)
  | 14 => ("TextIndicesModel", "taped", "I", false)
  | 15 => ("TextIndicesModel", "tapedFroms", "[I", true)
  | 16 => ("TextIndicesModel", "tapedFulls", "[I", true)
  | 17 => ("TextIndicesModel", "partRows", "[I", true)
  | 18 => ("TextIndicesModel", "partSorts", "[I", true)
  | 19 => ("TextIndicesModel", "partFirsts", "[I", true)
  | 20 => ("TextIndicesModel", "partCounts", "[I", true)
  | 21 => ("TextIndicesModel", "parts", "I", false)
  | 22 => ("TextIndicesModel", "asked", "I", false)
  | 23 => ("TextIndicesModel", "at", "I", false)
  | 24 => ("TextIndicesModel", "fault", "I", false)
  | 25 => ("TextIndicesModel", "answers", "[I", true)
  | 26 => ("TextIndicesModel", "scores", "[J", true)
  | 27 => ("TextIndicesModel", "answered", "I", false)
  | 28 => ("TextIndicesModel", "changes", "[I", true)
  | 29 => ("TextIndicesModel", "liked", "I", false)
  | 30 => ("TextIndicesModel", "shown", "[B", true)
  | 31 => ("TextIndicesModel", "shownSize", "I", false)
  | _ => ("TextIndicesModel", "table", "[I", true)
def ty_Mo : Nat → FieldType := fun k => match k with
  | 0 => .array .byte
  | 1 => .array .int
  | 2 => .array .byte
  | 3 => .int
  | 4 => .array .int
  | 5 => .array .int
  | 6 => .array .int
  | 7 => .array .int
  | 8 => .array .int
  | 9 => .int
  | 10 => .int
  | 11 => .array .int
  | 12 => .int
  | 13 => .array .int
  | 14 => .int
  | 15 => .array .int
  | 16 => .array .int
  | 17 => .array .int
  | 18 => .array .int
  | 19 => .array .int
  | 20 => .array .int
  | 21 => .int
  | 22 => .int
  | 23 => .int
  | 24 => .int
  | 25 => .array .int
  | 26 => .array .long
  | 27 => .int
  | 28 => .array .int
  | 29 => .int
  | 30 => .array .byte
  | 31 => .int
  | _ => .array .int
theorem nm_Mo : ∀ a, a < 33 → ∀ b, b < 33 → a ≠ b → (F_Mo a).2.1 ≠ (F_Mo b).2.1 := by decide +kernel
theorem tyok_Mo : ∀ k, k < 33 → parseFieldDescriptor (F_Mo k).2.2.1 = some (ty_Mo k) := by decide +kernel
def F_Pa : u_T := fun k => match k with
  | 0 => ("TextIndices$Part", "kind", "LTextIndices$Kind;", true)
  | 1 => ("TextIndices$Part", "without", "Z", true)
  | 2 => ("TextIndices$Part", "row", "I", true)
  | 3 => ("TextIndices$Part", "first", "I", true)
  | _ => ("TextIndices$Part", "length", "I", true)
def ty_Pa : Nat → FieldType := fun k => match k with
  | 0 => .object "TextIndices$Kind"
  | 1 => .boolean
  | 2 => .int
  | 3 => .int
  | _ => .int
theorem nm_Pa : ∀ a, a < 5 → ∀ b, b < 5 → a ≠ b → (F_Pa a).2.1 ≠ (F_Pa b).2.1 := by decide +kernel
theorem tyok_Pa : ∀ k, k < 5 → parseFieldDescriptor (F_Pa k).2.2.1 = some (ty_Pa k) := by decide +kernel
abbrev b_An_init : ByteArray := prog_2_method_1_code
def y_An_init : MethodName := ⟨"TextIndices$Answers", "<init>", "()V"⟩
abbrev b_An_clear : ByteArray := prog_2_method_2_code
def y_An_clear : MethodName := ⟨"TextIndices$Answers", "clear", "()V"⟩
abbrev b_An_count : ByteArray := prog_2_method_3_code
def y_An_count : MethodName := ⟨"TextIndices$Answers", "count", "()I"⟩
abbrev b_An_add : ByteArray := prog_2_method_4_code
def y_An_add : MethodName := ⟨"TextIndices$Answers", "add", "(IJ)V"⟩
abbrev b_An_has : ByteArray := prog_2_method_5_code
def y_An_has : MethodName := ⟨"TextIndices$Answers", "has", "(I)Z"⟩
abbrev b_An_textAt : ByteArray := prog_2_method_6_code
def y_An_textAt : MethodName := ⟨"TextIndices$Answers", "textAt", "(I)I"⟩
abbrev b_An_weightAt : ByteArray := prog_2_method_7_code
def y_An_weightAt : MethodName := ⟨"TextIndices$Answers", "weightAt", "(I)J"⟩
abbrev b_La_init : ByteArray := prog_4_method_1_code
def y_La_init : MethodName := ⟨"TextIndices$Language", "<init>", "(I)V"⟩
abbrev b_La_number : ByteArray := prog_4_method_2_code
def y_La_number : MethodName := ⟨"TextIndices$Language", "number", "()I"⟩
abbrev b_La_isStop : ByteArray := prog_4_method_3_code
def y_La_isStop : MethodName := ⟨"TextIndices$Language", "isStop", "(J)Z"⟩
abbrev b_La_addStop : ByteArray := prog_4_method_4_code
def y_La_addStop : MethodName := ⟨"TextIndices$Language", "addStop", "(J)Z"⟩
abbrev b_La_ruleCount : ByteArray := prog_4_method_5_code
def y_La_ruleCount : MethodName := ⟨"TextIndices$Language", "ruleCount", "()I"⟩
abbrev b_La_addRule : ByteArray := prog_4_method_6_code
def y_La_addRule : MethodName := ⟨"TextIndices$Language", "addRule", "(JJ)Z"⟩
abbrev b_La_stemOf : ByteArray := prog_4_method_7_code
def y_La_stemOf : MethodName := ⟨"TextIndices$Language", "stemOf", "(J)J"⟩
abbrev b_La_isEnding : ByteArray := prog_4_method_8_code
def y_La_isEnding : MethodName := ⟨"TextIndices$Language", "isEnding", "(JJ)Z"⟩
abbrev b_La_stemInTexts : ByteArray := prog_4_method_9_code
def y_La_stemInTexts : MethodName := ⟨"TextIndices$Language", "stemInTexts", "(J)J"⟩
abbrev b_Li_init : ByteArray := prog_5_method_1_code
def y_Li_init : MethodName := ⟨"TextIndices$Likes", "<init>", "()V"⟩
abbrev b_Li_clear : ByteArray := prog_5_method_2_code
def y_Li_clear : MethodName := ⟨"TextIndices$Likes", "clear", "()V"⟩
abbrev b_Li_count : ByteArray := prog_5_method_3_code
def y_Li_count : MethodName := ⟨"TextIndices$Likes", "count", "()I"⟩
abbrev b_Li_wordAt : ByteArray := prog_5_method_4_code
def y_Li_wordAt : MethodName := ⟨"TextIndices$Likes", "wordAt", "(I)J"⟩
abbrev b_Li_search : ByteArray := prog_5_method_5_code
def y_Li_search : MethodName := ⟨"TextIndices$Likes", "search", "(LTextIndices$Shelf;IJI)V"⟩
abbrev b_Li_offer : ByteArray := prog_5_method_6_code
def y_Li_offer : MethodName := ⟨"TextIndices$Likes", "offer", "(JI)V"⟩
abbrev b_Li_holds : ByteArray := prog_5_method_7_code
def y_Li_holds : MethodName := ⟨"TextIndices$Likes", "holds", "(J)Z"⟩
abbrev b_Li_insert : ByteArray := prog_5_method_8_code
def y_Li_insert : MethodName := ⟨"TextIndices$Likes", "insert", "(JI)V"⟩
abbrev b_Li_standsBefore : ByteArray := prog_5_method_9_code
def y_Li_standsBefore : MethodName := ⟨"TextIndices$Likes", "standsBefore", "(JII)Z"⟩
abbrev b_Li_changesNeeded : ByteArray := prog_5_method_10_code
def y_Li_changesNeeded : MethodName := ⟨"TextIndices$Likes", "changesNeeded", "(I)I"⟩
abbrev b_Pa_init : ByteArray := prog_6_method_1_code
def y_Pa_init : MethodName := ⟨"TextIndices$Part", "<init>", "(LTextIndices$Kind;ZIII)V"⟩
abbrev b_Qu_init : ByteArray := prog_7_method_1_code
def y_Qu_init : MethodName := ⟨"TextIndices$Question", "<init>", "(LTextIndices$Tape;)V"⟩
abbrev b_Qu_read : ByteArray := prog_7_method_2_code
def y_Qu_read : MethodName := ⟨"TextIndices$Question", "read", "()I"⟩
abbrev b_Qu_skipBlanks : ByteArray := prog_7_method_3_code
def y_Qu_skipBlanks : MethodName := ⟨"TextIndices$Question", "skipBlanks", "()V"⟩
abbrev b_Qu_readPart : ByteArray := prog_7_method_4_code
def y_Qu_readPart : MethodName := ⟨"TextIndices$Question", "readPart", "()Z"⟩
abbrev b_Qu_readPhrase : ByteArray := prog_7_method_5_code
def y_Qu_readPhrase : MethodName := ⟨"TextIndices$Question", "readPhrase", "(Z)Z"⟩
abbrev b_Qu_readWord : ByteArray := prog_7_method_6_code
def y_Qu_readWord : MethodName := ⟨"TextIndices$Question", "readWord", "()J"⟩
abbrev b_Qu_seek : ByteArray := prog_7_method_7_code
def y_Qu_seek : MethodName := ⟨"TextIndices$Question", "seek", "(J)V"⟩
abbrev b_Qu_stemSought : ByteArray := prog_7_method_8_code
def y_Qu_stemSought : MethodName := ⟨"TextIndices$Question", "stemSought", "(LTextIndices$Language;)V"⟩
abbrev b_Qu_soughtBy : ByteArray := prog_7_method_9_code
def y_Qu_soughtBy : MethodName := ⟨"TextIndices$Question", "soughtBy", "(LTextIndices$Part;)J"⟩
abbrev b_Qu_weigh : ByteArray := prog_7_method_10_code
def y_Qu_weigh : MethodName := ⟨"TextIndices$Question", "weigh", "(LTextIndices$Shelf;II)V"⟩
abbrev b_Qu_hasTerm : ByteArray := prog_7_method_11_code
def y_Qu_hasTerm : MethodName := ⟨"TextIndices$Question", "hasTerm", "(J)Z"⟩
abbrev b_Qu_weightOf : ByteArray := prog_7_method_12_code
def y_Qu_weightOf : MethodName := ⟨"TextIndices$Question", "weightOf", "(LTextIndices$Shelf;I)J"⟩
abbrev b_Qu_isAnsweredBy : ByteArray := prog_7_method_13_code
def y_Qu_isAnsweredBy : MethodName := ⟨"TextIndices$Question", "isAnsweredBy", "(LTextIndices$Shelf;I)Z"⟩
abbrev b_Qu_isPartAnsweredBy : ByteArray := prog_7_method_14_code
def y_Qu_isPartAnsweredBy : MethodName := ⟨"TextIndices$Question", "isPartAnsweredBy", "(LTextIndices$Part;LTextIndices$Shelf;I)Z"⟩
abbrev b_Sh_init : ByteArray := prog_8_method_1_code
def y_Sh_init : MethodName := ⟨"TextIndices$Shelf", "<init>", "()V"⟩
abbrev b_Sh_put : ByteArray := prog_8_method_2_code
def y_Sh_put : MethodName := ⟨"TextIndices$Shelf", "put", "(LTextIndices$Language;ILTextIndices$Tape;)I"⟩
abbrev b_Sh_takeAway : ByteArray := prog_8_method_3_code
def y_Sh_takeAway : MethodName := ⟨"TextIndices$Shelf", "takeAway", "(I)Z"⟩
abbrev b_Sh_has : ByteArray := prog_8_method_4_code
def y_Sh_has : MethodName := ⟨"TextIndices$Shelf", "has", "(I)Z"⟩
abbrev b_Sh_isIn : ByteArray := prog_8_method_5_code
def y_Sh_isIn : MethodName := ⟨"TextIndices$Shelf", "isIn", "(III)Z"⟩
abbrev b_Sh_firstOf : ByteArray := prog_8_method_6_code
def y_Sh_firstOf : MethodName := ⟨"TextIndices$Shelf", "firstOf", "(I)I"⟩
abbrev b_Sh_endOf : ByteArray := prog_8_method_7_code
def y_Sh_endOf : MethodName := ⟨"TextIndices$Shelf", "endOf", "(I)I"⟩
abbrev b_Sh_stemAgain : ByteArray := prog_8_method_8_code
def y_Sh_stemAgain : MethodName := ⟨"TextIndices$Shelf", "stemAgain", "(LTextIndices$Language;)V"⟩
abbrev b_Sh_hasPlace : ByteArray := prog_8_method_9_code
def y_Sh_hasPlace : MethodName := ⟨"TextIndices$Shelf", "hasPlace", "(II)Z"⟩
abbrev b_Sh_startOf : ByteArray := prog_8_method_10_code
def y_Sh_startOf : MethodName := ⟨"TextIndices$Shelf", "startOf", "(II)I"⟩
abbrev b_Sh_sizeOf : ByteArray := prog_8_method_11_code
def y_Sh_sizeOf : MethodName := ⟨"TextIndices$Shelf", "sizeOf", "(II)I"⟩
abbrev b_Sh_countTexts : ByteArray := prog_8_method_12_code
def y_Sh_countTexts : MethodName := ⟨"TextIndices$Shelf", "countTexts", "()I"⟩
abbrev b_Sh_countStems : ByteArray := prog_8_method_13_code
def y_Sh_countStems : MethodName := ⟨"TextIndices$Shelf", "countStems", "(I)I"⟩
abbrev b_Sh_countNewStems : ByteArray := prog_8_method_14_code
def y_Sh_countNewStems : MethodName := ⟨"TextIndices$Shelf", "countNewStems", "(II)I"⟩
abbrev b_Sh_hasEarlier : ByteArray := prog_8_method_15_code
def y_Sh_hasEarlier : MethodName := ⟨"TextIndices$Shelf", "hasEarlier", "(III)Z"⟩
abbrev b_Sh_timesOf : ByteArray := prog_8_method_16_code
def y_Sh_timesOf : MethodName := ⟨"TextIndices$Shelf", "timesOf", "(JI)I"⟩
abbrev b_Sh_countTextsWith : ByteArray := prog_8_method_17_code
def y_Sh_countTextsWith : MethodName := ⟨"TextIndices$Shelf", "countTextsWith", "(JII)I"⟩
abbrev b_Sh_hasBeginning : ByteArray := prog_8_method_18_code
def y_Sh_hasBeginning : MethodName := ⟨"TextIndices$Shelf", "hasBeginning", "(JI)Z"⟩
abbrev b_Sh_hasPhrase : ByteArray := prog_8_method_19_code
def y_Sh_hasPhrase : MethodName := ⟨"TextIndices$Shelf", "hasPhrase", "([JIII)Z"⟩
abbrev b_Sh_standsAt : ByteArray := prog_8_method_20_code
def y_Sh_standsAt : MethodName := ⟨"TextIndices$Shelf", "standsAt", "(I[JII)Z"⟩
abbrev b_Sh_wordUnlessStop : ByteArray := prog_8_method_21_code
def y_Sh_wordUnlessStop : MethodName := ⟨"TextIndices$Shelf", "wordUnlessStop", "(I)J"⟩
abbrev b_Ta_init : ByteArray := prog_9_method_1_code
def y_Ta_init : MethodName := ⟨"TextIndices$Tape", "<init>", "()V"⟩
abbrev b_Ta_length : ByteArray := prog_9_method_2_code
def y_Ta_length : MethodName := ⟨"TextIndices$Tape", "length", "()I"⟩
abbrev b_Ta_append : ByteArray := prog_9_method_3_code
def y_Ta_append : MethodName := ⟨"TextIndices$Tape", "append", "(JI)Z"⟩
abbrev b_Ta_clear : ByteArray := prog_9_method_4_code
def y_Ta_clear : MethodName := ⟨"TextIndices$Tape", "clear", "()V"⟩
abbrev b_Ta_symbolAt : ByteArray := prog_9_method_5_code
def y_Ta_symbolAt : MethodName := ⟨"TextIndices$Tape", "symbolAt", "(I)I"⟩
abbrev b_Ta_wordEnd : ByteArray := prog_9_method_6_code
def y_Ta_wordEnd : MethodName := ⟨"TextIndices$Tape", "wordEnd", "(I)I"⟩
abbrev b_Ta_wordBetween : ByteArray := prog_9_method_7_code
def y_Ta_wordBetween : MethodName := ⟨"TextIndices$Tape", "wordBetween", "(II)J"⟩
abbrev b_Ta_split : ByteArray := prog_9_method_8_code
def y_Ta_split : MethodName := ⟨"TextIndices$Tape", "split", "()I"⟩
abbrev b_Ta_keepWord : ByteArray := prog_9_method_9_code
def y_Ta_keepWord : MethodName := ⟨"TextIndices$Tape", "keepWord", "(II)V"⟩
abbrev b_Ta_wordCount : ByteArray := prog_9_method_10_code
def y_Ta_wordCount : MethodName := ⟨"TextIndices$Tape", "wordCount", "()I"⟩
abbrev b_Ta_hasWord : ByteArray := prog_9_method_11_code
def y_Ta_hasWord : MethodName := ⟨"TextIndices$Tape", "hasWord", "(I)Z"⟩
abbrev b_Ta_wordAt : ByteArray := prog_9_method_12_code
def y_Ta_wordAt : MethodName := ⟨"TextIndices$Tape", "wordAt", "(I)J"⟩
abbrev b_Ta_startAt : ByteArray := prog_9_method_13_code
def y_Ta_startAt : MethodName := ⟨"TextIndices$Tape", "startAt", "(I)I"⟩
abbrev b_Ta_sizeAt : ByteArray := prog_9_method_14_code
def y_Ta_sizeAt : MethodName := ⟨"TextIndices$Tape", "sizeAt", "(I)I"⟩
abbrev b_Wo_digitOf : ByteArray := prog_10_method_2_code
def y_Wo_digitOf : MethodName := ⟨"TextIndices$Words", "digitOf", "(I)I"⟩
abbrev b_Wo_withDigit : ByteArray := prog_10_method_3_code
def y_Wo_withDigit : MethodName := ⟨"TextIndices$Words", "withDigit", "(JI)J"⟩
abbrev b_Wo_withZeros : ByteArray := prog_10_method_4_code
def y_Wo_withZeros : MethodName := ⟨"TextIndices$Words", "withZeros", "(JI)J"⟩
abbrev b_Wo_withoutLast : ByteArray := prog_10_method_5_code
def y_Wo_withoutLast : MethodName := ⟨"TextIndices$Words", "withoutLast", "(JI)J"⟩
abbrev b_Wo_lengthOf : ByteArray := prog_10_method_6_code
def y_Wo_lengthOf : MethodName := ⟨"TextIndices$Words", "lengthOf", "(J)I"⟩
abbrev b_Wo_symbolAt : ByteArray := prog_10_method_7_code
def y_Wo_symbolAt : MethodName := ⟨"TextIndices$Words", "symbolAt", "(JI)I"⟩
abbrev b_Wo_isBeginning : ByteArray := prog_10_method_8_code
def y_Wo_isBeginning : MethodName := ⟨"TextIndices$Words", "isBeginning", "(JJ)Z"⟩
abbrev b_Wo_spread : ByteArray := prog_10_method_9_code
def y_Wo_spread : MethodName := ⟨"TextIndices$Words", "spread", "(J[I)I"⟩
abbrev b_TI_init : ByteArray := prog_1_method_1_code
def y_TI_init : MethodName := ⟨"TextIndices", "<init>", "()V"⟩
abbrev b_TI_type : ByteArray := prog_1_method_2_code
def y_TI_type : MethodName := ⟨"TextIndices", "type", "(JI)I"⟩
abbrev b_TI_text : ByteArray := prog_1_method_3_code
def y_TI_text : MethodName := ⟨"TextIndices", "text", "(II)I"⟩
abbrev b_TI_remove : ByteArray := prog_1_method_4_code
def y_TI_remove : MethodName := ⟨"TextIndices", "remove", "(I)I"⟩
abbrev b_TI_stop : ByteArray := prog_1_method_5_code
def y_TI_stop : MethodName := ⟨"TextIndices", "stop", "(I)I"⟩
abbrev b_TI_ending : ByteArray := prog_1_method_6_code
def y_TI_ending : MethodName := ⟨"TextIndices", "ending", "(I)I"⟩
abbrev b_TI_stem : ByteArray := prog_1_method_7_code
def y_TI_stem : MethodName := ⟨"TextIndices", "stem", "(I)I"⟩
abbrev b_TI_ask : ByteArray := prog_1_method_8_code
def y_TI_ask : MethodName := ⟨"TextIndices", "ask", "(II)I"⟩
abbrev b_TI_answer : ByteArray := prog_1_method_9_code
def y_TI_answer : MethodName := ⟨"TextIndices", "answer", "(I)I"⟩
abbrev b_TI_score : ByteArray := prog_1_method_10_code
def y_TI_score : MethodName := ⟨"TextIndices", "score", "(I)J"⟩
abbrev b_TI_like : ByteArray := prog_1_method_11_code
def y_TI_like : MethodName := ⟨"TextIndices", "like", "(II)I"⟩
abbrev b_TI_word : ByteArray := prog_1_method_12_code
def y_TI_word : MethodName := ⟨"TextIndices", "word", "(I)I"⟩
abbrev b_TI_at : ByteArray := prog_1_method_13_code
def y_TI_at : MethodName := ⟨"TextIndices", "at", "(I)I"⟩
abbrev b_TI_place : ByteArray := prog_1_method_14_code
def y_TI_place : MethodName := ⟨"TextIndices", "place", "(III)I"⟩
abbrev b_TI_texts : ByteArray := prog_1_method_15_code
def y_TI_texts : MethodName := ⟨"TextIndices", "texts", "()I"⟩
abbrev b_TI_stems : ByteArray := prog_1_method_16_code
def y_TI_stems : MethodName := ⟨"TextIndices", "stems", "(I)I"⟩
abbrev b_TI_languageOf : ByteArray := prog_1_method_17_code
def y_TI_languageOf : MethodName := ⟨"TextIndices", "languageOf", "(I)LTextIndices$Language;"⟩
abbrev b_TI_takeFirstWord : ByteArray := prog_1_method_18_code
def y_TI_takeFirstWord : MethodName := ⟨"TextIndices", "takeFirstWord", "()J"⟩
abbrev b_TI_tell : ByteArray := prog_1_method_19_code
def y_TI_tell : MethodName := ⟨"TextIndices", "tell", "(J)I"⟩
abbrev b_Mo_init : ByteArray := prog_12_method_1_code
def y_Mo_init : MethodName := ⟨"TextIndicesModel", "<init>", "()V"⟩
abbrev b_Mo_byteOf : ByteArray := prog_12_method_2_code
def y_Mo_byteOf : MethodName := ⟨"TextIndicesModel", "byteOf", "(II)I"⟩
abbrev b_Mo_same : ByteArray := prog_12_method_3_code
def y_Mo_same : MethodName := ⟨"TextIndicesModel", "same", "(II)Z"⟩
abbrev b_Mo_beginsSo : ByteArray := prog_12_method_4_code
def y_Mo_beginsSo : MethodName := ⟨"TextIndicesModel", "beginsSo", "(II)Z"⟩
abbrev b_Mo_add : ByteArray := prog_12_method_5_code
def y_Mo_add : MethodName := ⟨"TextIndicesModel", "add", "(II)V"⟩
abbrev b_Mo_copy : ByteArray := prog_12_method_6_code
def y_Mo_copy : MethodName := ⟨"TextIndicesModel", "copy", "(II)V"⟩
abbrev b_Mo_letter : ByteArray := prog_12_method_7_code
def y_Mo_letter : MethodName := ⟨"TextIndicesModel", "letter", "(I)I"⟩
abbrev b_Mo_type : ByteArray := prog_12_method_8_code
def y_Mo_type : MethodName := ⟨"TextIndicesModel", "type", "(JI)I"⟩
abbrev b_Mo_readWords : ByteArray := prog_12_method_9_code
def y_Mo_readWords : MethodName := ⟨"TextIndicesModel", "readWords", "()V"⟩
abbrev b_Mo_isLanguage : ByteArray := prog_12_method_10_code
def y_Mo_isLanguage : MethodName := ⟨"TextIndicesModel", "isLanguage", "(I)Z"⟩
abbrev b_Mo_isStop : ByteArray := prog_12_method_11_code
def y_Mo_isStop : MethodName := ⟨"TextIndicesModel", "isStop", "(II)Z"⟩
abbrev b_Mo_stop : ByteArray := prog_12_method_12_code
def y_Mo_stop : MethodName := ⟨"TextIndicesModel", "stop", "(I)I"⟩
abbrev b_Mo_endingAt : ByteArray := prog_12_method_13_code
def y_Mo_endingAt : MethodName := ⟨"TextIndicesModel", "endingAt", "(II)I"⟩
abbrev b_Mo_ending : ByteArray := prog_12_method_14_code
def y_Mo_ending : MethodName := ⟨"TextIndicesModel", "ending", "(I)I"⟩
abbrev b_Mo_ends : ByteArray := prog_12_method_15_code
def y_Mo_ends : MethodName := ⟨"TextIndicesModel", "ends", "(II)Z"⟩
abbrev b_Mo_stemTo : ByteArray := prog_12_method_16_code
def y_Mo_stemTo : MethodName := ⟨"TextIndicesModel", "stemTo", "(III)V"⟩
abbrev b_Mo_show : ByteArray := prog_12_method_17_code
def y_Mo_show : MethodName := ⟨"TextIndicesModel", "show", "(I)I"⟩
abbrev b_Mo_stem : ByteArray := prog_12_method_18_code
def y_Mo_stem : MethodName := ⟨"TextIndicesModel", "stem", "(I)I"⟩
abbrev b_Mo_at : ByteArray := prog_12_method_19_code
def y_Mo_at : MethodName := ⟨"TextIndicesModel", "at", "(I)I"⟩
abbrev b_Mo_text : ByteArray := prog_12_method_20_code
def y_Mo_text : MethodName := ⟨"TextIndicesModel", "text", "(II)I"⟩
abbrev b_Mo_wordsOf : ByteArray := prog_12_method_21_code
def y_Mo_wordsOf : MethodName := ⟨"TextIndicesModel", "wordsOf", "(I)I"⟩
abbrev b_Mo_isText : ByteArray := prog_12_method_22_code
def y_Mo_isText : MethodName := ⟨"TextIndicesModel", "isText", "(I)Z"⟩
abbrev b_Mo_remove : ByteArray := prog_12_method_23_code
def y_Mo_remove : MethodName := ⟨"TextIndicesModel", "remove", "(I)I"⟩
abbrev b_Mo_texts : ByteArray := prog_12_method_24_code
def y_Mo_texts : MethodName := ⟨"TextIndicesModel", "texts", "()I"⟩
abbrev b_Mo_place : ByteArray := prog_12_method_25_code
def y_Mo_place : MethodName := ⟨"TextIndicesModel", "place", "(III)I"⟩
abbrev b_Mo_hasAt : ByteArray := prog_12_method_26_code
def y_Mo_hasAt : MethodName := ⟨"TextIndicesModel", "hasAt", "(IIIZ)Z"⟩
abbrev b_Mo_times : ByteArray := prog_12_method_27_code
def y_Mo_times : MethodName := ⟨"TextIndicesModel", "times", "(IIZ)I"⟩
abbrev b_Mo_stems : ByteArray := prog_12_method_28_code
def y_Mo_stems : MethodName := ⟨"TextIndicesModel", "stems", "(I)I"⟩
abbrev b_Mo_isFirst : ByteArray := prog_12_method_29_code
def y_Mo_isFirst : MethodName := ⟨"TextIndicesModel", "isFirst", "(III)Z"⟩
abbrev b_Mo_here : ByteArray := prog_12_method_30_code
def y_Mo_here : MethodName := ⟨"TextIndicesModel", "here", "()I"⟩
abbrev b_Mo_need : ByteArray := prog_12_method_31_code
def y_Mo_need : MethodName := ⟨"TextIndicesModel", "need", "(Z)V"⟩
abbrev b_Mo_skip : ByteArray := prog_12_method_32_code
def y_Mo_skip : MethodName := ⟨"TextIndicesModel", "skip", "()V"⟩
abbrev b_Mo_isLetter : ByteArray := prog_12_method_33_code
def y_Mo_isLetter : MethodName := ⟨"TextIndicesModel", "isLetter", "()Z"⟩
abbrev b_Mo_isPart : ByteArray := prog_12_method_34_code
def y_Mo_isPart : MethodName := ⟨"TextIndicesModel", "isPart", "()Z"⟩
abbrev b_Mo_readWord : ByteArray := prog_12_method_35_code
def y_Mo_readWord : MethodName := ⟨"TextIndicesModel", "readWord", "()V"⟩
abbrev b_Mo_readPart : ByteArray := prog_12_method_36_code
def y_Mo_readPart : MethodName := ⟨"TextIndicesModel", "readPart", "(I)V"⟩
abbrev b_Mo_readQuestion : ByteArray := prog_12_method_37_code
def y_Mo_readQuestion : MethodName := ⟨"TextIndicesModel", "readQuestion", "()I"⟩
abbrev b_Mo_hasPhrase : ByteArray := prog_12_method_38_code
def y_Mo_hasPhrase : MethodName := ⟨"TextIndicesModel", "hasPhrase", "(II)Z"⟩
abbrev b_Mo_answersPart : ByteArray := prog_12_method_39_code
def y_Mo_answersPart : MethodName := ⟨"TextIndicesModel", "answersPart", "(II)Z"⟩
abbrev b_Mo_answersRow : ByteArray := prog_12_method_40_code
def y_Mo_answersRow : MethodName := ⟨"TextIndicesModel", "answersRow", "(II)Z"⟩
abbrev b_Mo_isAsked : ByteArray := prog_12_method_41_code
def y_Mo_isAsked : MethodName := ⟨"TextIndicesModel", "isAsked", "(III)Z"⟩
abbrev b_Mo_countStems : ByteArray := prog_12_method_42_code
def y_Mo_countStems : MethodName := ⟨"TextIndicesModel", "countStems", "(I)I"⟩
abbrev b_Mo_scoreOf : ByteArray := prog_12_method_43_code
def y_Mo_scoreOf : MethodName := ⟨"TextIndicesModel", "scoreOf", "(IIII)J"⟩
abbrev b_Mo_ask : ByteArray := prog_12_method_44_code
def y_Mo_ask : MethodName := ⟨"TextIndicesModel", "ask", "(II)I"⟩
abbrev b_Mo_answer : ByteArray := prog_12_method_45_code
def y_Mo_answer : MethodName := ⟨"TextIndicesModel", "answer", "(I)I"⟩
abbrev b_Mo_score : ByteArray := prog_12_method_46_code
def y_Mo_score : MethodName := ⟨"TextIndicesModel", "score", "(I)J"⟩
abbrev b_Mo_distance : ByteArray := prog_12_method_47_code
def y_Mo_distance : MethodName := ⟨"TextIndicesModel", "distance", "(II)I"⟩
abbrev b_Mo_isBefore : ByteArray := prog_12_method_48_code
def y_Mo_isBefore : MethodName := ⟨"TextIndicesModel", "isBefore", "(II)Z"⟩
abbrev b_Mo_like : ByteArray := prog_12_method_49_code
def y_Mo_like : MethodName := ⟨"TextIndicesModel", "like", "(II)I"⟩
abbrev b_Mo_isLiked : ByteArray := prog_12_method_50_code
def y_Mo_isLiked : MethodName := ⟨"TextIndicesModel", "isLiked", "(I)Z"⟩
abbrev b_Mo_word : ByteArray := prog_12_method_51_code
def y_Mo_word : MethodName := ⟨"TextIndicesModel", "word", "(I)I"⟩
abbrev b_Law_law : ByteArray := code
def y_Law_law : MethodName := ⟨"TextIndicesLaw", "law", "([I)Z"⟩
abbrev b_AL_init : ByteArray := prog_21_method_2_code
def y_AL_init : MethodName := ⟨"java/util/ArrayList", "<init>", "()V"⟩
abbrev b_AL_grow1 : ByteArray := prog_21_method_6_code
def y_AL_grow1 : MethodName := ⟨"java/util/ArrayList", "grow", "(I)[Ljava/lang/Object;"⟩
abbrev b_AL_grow2 : ByteArray := prog_21_method_7_code
def y_AL_grow2 : MethodName := ⟨"java/util/ArrayList", "grow", "()[Ljava/lang/Object;"⟩
abbrev b_AL_size : ByteArray := prog_21_method_8_code
def y_AL_size : MethodName := ⟨"java/util/ArrayList", "size", "()I"⟩
abbrev b_AL_elementData : ByteArray := prog_21_method_18_code
def y_AL_elementData : MethodName := ⟨"java/util/ArrayList", "elementData", "(I)Ljava/lang/Object;"⟩
abbrev b_AL_get : ByteArray := prog_21_method_20_code
def y_AL_get : MethodName := ⟨"java/util/ArrayList", "get", "(I)Ljava/lang/Object;"⟩
abbrev b_AL_add1 : ByteArray := prog_21_method_24_code
def y_AL_add1 : MethodName := ⟨"java/util/ArrayList", "add", "(Ljava/lang/Object;[Ljava/lang/Object;I)V"⟩
abbrev b_AL_add2 : ByteArray := prog_21_method_25_code
def y_AL_add2 : MethodName := ⟨"java/util/ArrayList", "add", "(Ljava/lang/Object;)Z"⟩
abbrev b_AL_clear : ByteArray := prog_21_method_40_code
def y_AL_clear : MethodName := ⟨"java/util/ArrayList", "clear", "()V"⟩
abbrev b_Ab_init : ByteArray := prog_20_method_1_code
def y_Ab_init : MethodName := ⟨"java/util/AbstractList", "<init>", "()V"⟩
abbrev b_AC_init : ByteArray := prog_19_method_1_code
def y_AC_init : MethodName := ⟨"java/util/AbstractCollection", "<init>", "()V"⟩
abbrev b_Ar_copyOf1 : ByteArray := prog_22_method_119_code
def y_Ar_copyOf1 : MethodName := ⟨"java/util/Arrays", "copyOf", "([Ljava/lang/Object;I)[Ljava/lang/Object;"⟩
abbrev b_Ar_copyOf2 : ByteArray := prog_22_method_120_code
def y_Ar_copyOf2 : MethodName := ⟨"java/util/Arrays", "copyOf", "([Ljava/lang/Object;ILjava/lang/Class;)[Ljava/lang/Object;"⟩
abbrev b_Ar_copyOf3 : ByteArray := prog_22_method_124_code
def y_Ar_copyOf3 : MethodName := ⟨"java/util/Arrays", "copyOf", "([JI)[J"⟩
abbrev b_Ob_checkIndex : ByteArray := prog_25_method_17_code
def y_Ob_checkIndex : MethodName := ⟨"java/util/Objects", "checkIndex", "(II)I"⟩
abbrev b_AS_newLength : ByteArray := prog_28_method_27_code
def y_AS_newLength : MethodName := ⟨"jdk/internal/util/ArraysSupport", "newLength", "(III)I"⟩
abbrev b_Pr_checkIndex : ByteArray := prog_29_method_11_code
def y_Pr_checkIndex : MethodName := ⟨"jdk/internal/util/Preconditions", "checkIndex", "(IILjava/util/function/BiFunction;)I"⟩
end
section
/-! ===== THE ABSTRACT MACHINE: the program over a heap of numbered cells, as a function. Its runs are the machine's (part 05). =====
Cell numbers: 0 the empty row of lists, 1 .. 3 the constants WORD, BEGINNING, PHRASE, 4 the class object of rows of objects, 5 the law's script; from 6 on what is made. Kinds of rows: 0 int, 1 byte, 2 boolean, 3 long, 4 Object, 5 Language. -/
abbrev am_C : Type := (Nat × vp_A) ⊕ (Nat × List Value)
abbrev am_e : Type := Jvm.ClassFile.Instr × Nat × Nat × Nat × Nat × Int32 × Int64
def am_get {α : Type} : List α → Nat → Option α
  | [], _ => none
  | x :: _, 0 => some x
  | _ :: l, n + 1 => am_get l n
def am_set {α : Type} : List α → Nat → α → List α
  | [], _, _ => []
  | _ :: l, 0, v => v :: l
  | x :: l, n + 1, v => x :: am_set l n v
end
section
-- the program as data: written by gen03.py out of what TURN printed
def am_dum : am_e := (.nop, 0, 0, 0, 0, 0, 0)
def k_An_init : List am_e := [
  (.aload_n 0, 1, 0, 0, 0, 0, 0), (.invokespecial 3, 4, 0, 4, 0, 0, 0), am_dum, am_dum, (.aload_n 0, 5, 0, 0, 0, 0, 0), (.bipush 40, 7, 0, 0, 0, 40, 0), am_dum, (.newarray .int, 9, 0, 0, 0, 0, 0), am_dum, 
  (.putfield 11, 12, 6, 0, 0, 0, 0), am_dum, am_dum, (.aload_n 0, 13, 0, 0, 0, 0, 0), (.bipush 40, 15, 0, 0, 0, 40, 0), am_dum, (.newarray .long, 17, 3, 0, 0, 0, 0), am_dum, (.putfield 17, 20, 6, 1, 0, 0, 0), am_dum, am_dum, 
  (.return_, 21, 0, 0, 0, 0, 0)]
def k_An_clear : List am_e := [
  (.aload_n 0, 1, 0, 0, 0, 0, 0), (.iconst 0, 2, 0, 0, 0, 0, 0), (.putfield 21, 5, 6, 2, 0, 0, 0), am_dum, am_dum, (.return_, 6, 0, 0, 0, 0, 0)]
def k_An_count : List am_e := [
  (.aload_n 0, 1, 0, 0, 0, 0, 0), (.getfield 21, 4, 6, 2, 0, 0, 0), am_dum, am_dum, (.ireturn, 5, 0, 0, 0, 0, 0)]
def k_An_add : List am_e := [
  (.aload_n 0, 1, 0, 0, 0, 0, 0), (.getfield 21, 4, 6, 2, 0, 0, 0), am_dum, am_dum, (.aload_n 0, 5, 0, 0, 0, 0, 0), (.getfield 11, 8, 6, 0, 0, 0, 0), am_dum, am_dum, (.arraylength, 9, 0, 0, 0, 0, 0), 
  (.if_icmp .lt 4, 12, 13, 0, 0, 0, 0), am_dum, am_dum, (.return_, 13, 0, 0, 0, 0, 0), (.aload_n 0, 14, 0, 0, 0, 0, 0), (.getfield 21, 17, 6, 2, 0, 0, 0), am_dum, am_dum, (.istore 4, 19, 4, 0, 0, 0, 0), am_dum, 
  (.iload 4, 21, 4, 0, 0, 0, 0), am_dum, (.ifCond .le 55, 24, 76, 0, 0, 0, 0), am_dum, am_dum, (.aload_n 0, 25, 0, 0, 0, 0, 0), (.getfield 17, 28, 6, 1, 0, 0, 0), am_dum, am_dum, (.iload 4, 30, 4, 0, 0, 0, 0), am_dum, 
  (.iconst 1, 31, 0, 0, 0, 1, 0), (.isub, 32, 0, 0, 0, 0, 0), (.laload, 33, 0, 0, 0, 0, 0), (.lload_n 2, 34, 2, 0, 0, 0, 0), (.lcmp, 35, 0, 0, 0, 0, 0), (.ifCond .ge 41, 38, 76, 0, 0, 0, 0), am_dum, am_dum, 
  (.aload_n 0, 39, 0, 0, 0, 0, 0), (.getfield 11, 42, 6, 0, 0, 0, 0), am_dum, am_dum, (.iload 4, 44, 4, 0, 0, 0, 0), am_dum, (.aload_n 0, 45, 0, 0, 0, 0, 0), (.getfield 11, 48, 6, 0, 0, 0, 0), am_dum, am_dum, 
  (.iload 4, 50, 4, 0, 0, 0, 0), am_dum, (.iconst 1, 51, 0, 0, 0, 1, 0), (.isub, 52, 0, 0, 0, 0, 0), (.iaload, 53, 0, 0, 0, 0, 0), (.iastore, 54, 0, 0, 0, 0, 0), (.aload_n 0, 55, 0, 0, 0, 0, 0), (.getfield 17, 58, 6, 1, 0, 0, 0), 
  am_dum, am_dum, (.iload 4, 60, 4, 0, 0, 0, 0), am_dum, (.aload_n 0, 61, 0, 0, 0, 0, 0), (.getfield 17, 64, 6, 1, 0, 0, 0), am_dum, am_dum, (.iload 4, 66, 4, 0, 0, 0, 0), am_dum, (.iconst 1, 67, 0, 0, 0, 1, 0), 
  (.isub, 68, 0, 0, 0, 0, 0), (.laload, 69, 0, 0, 0, 0, 0), (.lastore, 70, 0, 0, 0, 0, 0), (.iinc 4 (-1), 73, 4, 0, 0, -1, 0), am_dum, am_dum, (.goto (-54), 76, 19, 0, 0, 0, 0), am_dum, am_dum, (.aload_n 0, 77, 0, 0, 0, 0, 0), 
  (.getfield 11, 80, 6, 0, 0, 0, 0), am_dum, am_dum, (.iload 4, 82, 4, 0, 0, 0, 0), am_dum, (.iload_n 1, 83, 1, 0, 0, 0, 0), (.iastore, 84, 0, 0, 0, 0, 0), (.aload_n 0, 85, 0, 0, 0, 0, 0), (.getfield 17, 88, 6, 1, 0, 0, 0), am_dum, 
  am_dum, (.iload 4, 90, 4, 0, 0, 0, 0), am_dum, (.lload_n 2, 91, 2, 0, 0, 0, 0), (.lastore, 92, 0, 0, 0, 0, 0), (.aload_n 0, 93, 0, 0, 0, 0, 0), (.dup, 94, 0, 0, 0, 0, 0), (.getfield 21, 97, 6, 2, 0, 0, 0), am_dum, am_dum, 
  (.iconst 1, 98, 0, 0, 0, 1, 0), (.iadd, 99, 0, 0, 0, 0, 0), (.putfield 21, 102, 6, 2, 0, 0, 0), am_dum, am_dum, (.return_, 103, 0, 0, 0, 0, 0)]
def k_An_has : List am_e := [
  (.iload_n 1, 1, 1, 0, 0, 0, 0), (.ifCond .lt 24, 4, 25, 0, 0, 0, 0), am_dum, am_dum, (.iload_n 1, 5, 1, 0, 0, 0, 0), (.aload_n 0, 6, 0, 0, 0, 0, 0), (.getfield 21, 9, 6, 2, 0, 0, 0), am_dum, am_dum, 
  (.if_icmp .ge 16, 12, 25, 0, 0, 0, 0), am_dum, am_dum, (.iload_n 1, 13, 1, 0, 0, 0, 0), (.aload_n 0, 14, 0, 0, 0, 0, 0), (.getfield 11, 17, 6, 0, 0, 0, 0), am_dum, am_dum, (.arraylength, 18, 0, 0, 0, 0, 0), 
  (.if_icmp .ge 7, 21, 25, 0, 0, 0, 0), am_dum, am_dum, (.iconst 1, 22, 0, 0, 0, 1, 0), (.goto 4, 25, 26, 0, 0, 0, 0), am_dum, am_dum, (.iconst 0, 26, 0, 0, 0, 0, 0), (.ireturn, 27, 1, 0, 0, 0, 0)]
def k_An_textAt : List am_e := [
  (.aload_n 0, 1, 0, 0, 0, 0, 0), (.iload_n 1, 2, 1, 0, 0, 0, 0), (.invokevirtual 25, 5, 4, 0, 1, 0, 0), am_dum, am_dum, (.ifCond .eq 12, 8, 17, 0, 0, 0, 0), am_dum, am_dum, (.aload_n 0, 9, 0, 0, 0, 0, 0), 
  (.getfield 11, 12, 6, 0, 0, 0, 0), am_dum, am_dum, (.iload_n 1, 13, 1, 0, 0, 0, 0), (.iaload, 14, 0, 0, 0, 0, 0), (.goto 5, 17, 19, 0, 0, 0, 0), am_dum, am_dum, (.bipush (-2), 19, 0, 0, 0, -2, 0), am_dum, 
  (.ireturn, 20, 0, 0, 0, 0, 0)]
def k_An_weightAt : List am_e := [
  (.aload_n 0, 1, 0, 0, 0, 0, 0), (.iload_n 1, 2, 1, 0, 0, 0, 0), (.invokevirtual 25, 5, 4, 0, 1, 0, 0), am_dum, am_dum, (.ifCond .eq 12, 8, 17, 0, 0, 0, 0), am_dum, am_dum, (.aload_n 0, 9, 0, 0, 0, 0, 0), 
  (.getfield 17, 12, 6, 1, 0, 0, 0), am_dum, am_dum, (.iload_n 1, 13, 1, 0, 0, 0, 0), (.laload, 14, 0, 0, 0, 0, 0), (.goto 4, 17, 18, 0, 0, 0, 0), am_dum, am_dum, (.lconst 0, 18, 0, 0, 0, 0, 0), (.lreturn, 19, 0, 0, 0, 0, 0)]
def k_La_init : List am_e := [
  (.aload_n 0, 1, 0, 0, 0, 0, 0), (.invokespecial 1, 4, 0, 4, 0, 0, 0), am_dum, am_dum, (.aload_n 0, 5, 0, 0, 0, 0, 0), (.bipush 8, 7, 0, 0, 0, 8, 0), am_dum, (.newarray .long, 9, 3, 0, 0, 0, 0), am_dum, 
  (.putfield 9, 12, 2, 1, 0, 0, 0), am_dum, am_dum, (.aload_n 0, 13, 0, 0, 0, 0, 0), (.bipush 8, 15, 0, 0, 0, 8, 0), am_dum, (.newarray .long, 17, 3, 0, 0, 0, 0), am_dum, (.putfield 13, 20, 2, 2, 0, 0, 0), am_dum, am_dum, 
  (.aload_n 0, 21, 0, 0, 0, 0, 0), (.bipush 32, 23, 0, 0, 0, 32, 0), am_dum, (.newarray .long, 25, 3, 0, 0, 0, 0), am_dum, (.putfield 16, 28, 2, 4, 0, 0, 0), am_dum, am_dum, (.aload_n 0, 29, 0, 0, 0, 0, 0), 
  (.iload_n 1, 30, 1, 0, 0, 0, 0), (.putfield 19, 33, 2, 0, 0, 0, 0), am_dum, am_dum, (.return_, 34, 0, 0, 0, 0, 0)]
def k_La_number : List am_e := [
  (.aload_n 0, 1, 0, 0, 0, 0, 0), (.getfield 19, 4, 2, 0, 0, 0, 0), am_dum, am_dum, (.ireturn, 5, 0, 0, 0, 0, 0)]
def k_La_isStop : List am_e := [
  (.iconst 0, 1, 0, 0, 0, 0, 0), (.istore_n 3, 2, 3, 0, 0, 0, 0), (.iload_n 3, 3, 3, 0, 0, 0, 0), (.aload_n 0, 4, 0, 0, 0, 0, 0), (.getfield 23, 7, 2, 5, 0, 0, 0), am_dum, am_dum, (.if_icmp .ge 31, 10, 38, 0, 0, 0, 0), am_dum, 
  am_dum, (.iload_n 3, 11, 3, 0, 0, 0, 0), (.aload_n 0, 12, 0, 0, 0, 0, 0), (.getfield 16, 15, 2, 4, 0, 0, 0), am_dum, am_dum, (.arraylength, 16, 0, 0, 0, 0, 0), (.if_icmp .ge 22, 19, 38, 0, 0, 0, 0), am_dum, am_dum, 
  (.aload_n 0, 20, 0, 0, 0, 0, 0), (.getfield 16, 23, 2, 4, 0, 0, 0), am_dum, am_dum, (.iload_n 3, 24, 3, 0, 0, 0, 0), (.laload, 25, 0, 0, 0, 0, 0), (.lload_n 1, 26, 1, 0, 0, 0, 0), (.lcmp, 27, 0, 0, 0, 0, 0), 
  (.ifCond .ne 5, 30, 32, 0, 0, 0, 0), am_dum, am_dum, (.iconst 1, 31, 0, 0, 0, 1, 0), (.ireturn, 32, 1, 0, 0, 0, 0), (.iinc 3 1, 35, 3, 0, 0, 1, 0), am_dum, am_dum, (.goto (-33), 38, 2, 0, 0, 0, 0), am_dum, am_dum, 
  (.iconst 0, 39, 0, 0, 0, 0, 0), (.ireturn, 40, 1, 0, 0, 0, 0)]
def k_La_addStop : List am_e := [
  (.aload_n 0, 1, 0, 0, 0, 0, 0), (.lload_n 1, 2, 1, 0, 0, 0, 0), (.invokevirtual 26, 5, 9, 0, 1, 0, 0), am_dum, am_dum, (.ifCond .eq 5, 8, 10, 0, 0, 0, 0), am_dum, am_dum, (.iconst 0, 9, 0, 0, 0, 0, 0), 
  (.ireturn, 10, 1, 0, 0, 0, 0), (.aload_n 0, 11, 0, 0, 0, 0, 0), (.getfield 23, 14, 2, 5, 0, 0, 0), am_dum, am_dum, (.aload_n 0, 15, 0, 0, 0, 0, 0), (.getfield 16, 18, 2, 4, 0, 0, 0), am_dum, am_dum, 
  (.arraylength, 19, 0, 0, 0, 0, 0), (.if_icmp .lt 32, 22, 51, 0, 0, 0, 0), am_dum, am_dum, (.aload_n 0, 23, 0, 0, 0, 0, 0), (.getfield 16, 26, 2, 4, 0, 0, 0), am_dum, am_dum, (.arraylength, 27, 0, 0, 0, 0, 0), 
  (.sipush 2048, 30, 0, 0, 0, 2048, 0), am_dum, am_dum, (.if_icmp .ge 21, 33, 51, 0, 0, 0, 0), am_dum, am_dum, (.aload_n 0, 34, 0, 0, 0, 0, 0), (.aload_n 0, 35, 0, 0, 0, 0, 0), (.getfield 16, 38, 2, 4, 0, 0, 0), am_dum, am_dum, 
  (.iconst 2, 39, 0, 0, 0, 2, 0), (.aload_n 0, 40, 0, 0, 0, 0, 0), (.getfield 16, 43, 2, 4, 0, 0, 0), am_dum, am_dum, (.arraylength, 44, 0, 0, 0, 0, 0), (.imul, 45, 0, 0, 0, 0, 0), (.invokestatic 30, 48, 168, 3, 2, 0, 0), am_dum, 
  am_dum, (.putfield 16, 51, 2, 4, 0, 0, 0), am_dum, am_dum, (.aload_n 0, 52, 0, 0, 0, 0, 0), (.getfield 23, 55, 2, 5, 0, 0, 0), am_dum, am_dum, (.aload_n 0, 56, 0, 0, 0, 0, 0), (.getfield 16, 59, 2, 4, 0, 0, 0), am_dum, am_dum, 
  (.arraylength, 60, 0, 0, 0, 0, 0), (.if_icmp .lt 5, 63, 65, 0, 0, 0, 0), am_dum, am_dum, (.iconst 0, 64, 0, 0, 0, 0, 0), (.ireturn, 65, 1, 0, 0, 0, 0), (.aload_n 0, 66, 0, 0, 0, 0, 0), (.getfield 16, 69, 2, 4, 0, 0, 0), am_dum, 
  am_dum, (.aload_n 0, 70, 0, 0, 0, 0, 0), (.getfield 23, 73, 2, 5, 0, 0, 0), am_dum, am_dum, (.lload_n 1, 74, 1, 0, 0, 0, 0), (.lastore, 75, 0, 0, 0, 0, 0), (.aload_n 0, 76, 0, 0, 0, 0, 0), (.dup, 77, 0, 0, 0, 0, 0), 
  (.getfield 23, 80, 2, 5, 0, 0, 0), am_dum, am_dum, (.iconst 1, 81, 0, 0, 0, 1, 0), (.iadd, 82, 0, 0, 0, 0, 0), (.putfield 23, 85, 2, 5, 0, 0, 0), am_dum, am_dum, (.iconst 1, 86, 0, 0, 0, 1, 0), (.ireturn, 87, 1, 0, 0, 0, 0)]
def k_La_ruleCount : List am_e := [
  (.aload_n 0, 1, 0, 0, 0, 0, 0), (.getfield 36, 4, 2, 3, 0, 0, 0), am_dum, am_dum, (.ireturn, 5, 0, 0, 0, 0, 0)]
def k_La_addRule : List am_e := [
  (.aload_n 0, 1, 0, 0, 0, 0, 0), (.getfield 36, 4, 2, 3, 0, 0, 0), am_dum, am_dum, (.bipush 8, 6, 0, 0, 0, 8, 0), am_dum, (.if_icmp .lt 5, 9, 11, 0, 0, 0, 0), am_dum, am_dum, (.iconst 0, 10, 0, 0, 0, 0, 0), 
  (.ireturn, 11, 1, 0, 0, 0, 0), (.aload_n 0, 12, 0, 0, 0, 0, 0), (.getfield 9, 15, 2, 1, 0, 0, 0), am_dum, am_dum, (.aload_n 0, 16, 0, 0, 0, 0, 0), (.getfield 36, 19, 2, 3, 0, 0, 0), am_dum, am_dum, 
  (.lload_n 1, 20, 1, 0, 0, 0, 0), (.lastore, 21, 0, 0, 0, 0, 0), (.aload_n 0, 22, 0, 0, 0, 0, 0), (.getfield 13, 25, 2, 2, 0, 0, 0), am_dum, am_dum, (.aload_n 0, 26, 0, 0, 0, 0, 0), (.getfield 36, 29, 2, 3, 0, 0, 0), am_dum, 
  am_dum, (.lload_n 3, 30, 3, 0, 0, 0, 0), (.lastore, 31, 0, 0, 0, 0, 0), (.aload_n 0, 32, 0, 0, 0, 0, 0), (.dup, 33, 0, 0, 0, 0, 0), (.getfield 36, 36, 2, 3, 0, 0, 0), am_dum, am_dum, (.iconst 1, 37, 0, 0, 0, 1, 0), 
  (.iadd, 38, 0, 0, 0, 0, 0), (.putfield 36, 41, 2, 3, 0, 0, 0), am_dum, am_dum, (.iconst 1, 42, 0, 0, 0, 1, 0), (.ireturn, 43, 1, 0, 0, 0, 0)]
def k_La_stemOf : List am_e := [
  (.lload_n 1, 1, 1, 0, 0, 0, 0), (.invokestatic 39, 4, 80, 3, 1, 0, 0), am_dum, am_dum, (.istore_n 3, 5, 3, 0, 0, 0, 0), (.iconst 0, 6, 0, 0, 0, 0, 0), (.istore 4, 8, 4, 0, 0, 0, 0), am_dum, (.iload 4, 10, 4, 0, 0, 0, 0), am_dum, 
  (.aload_n 0, 11, 0, 0, 0, 0, 0), (.getfield 36, 14, 2, 3, 0, 0, 0), am_dum, am_dum, (.if_icmp .ge 85, 17, 99, 0, 0, 0, 0), am_dum, am_dum, (.iload 4, 19, 4, 0, 0, 0, 0), am_dum, (.bipush 8, 21, 0, 0, 0, 8, 0), am_dum, 
  (.if_icmp .ge 78, 24, 99, 0, 0, 0, 0), am_dum, am_dum, (.iload_n 3, 25, 3, 0, 0, 0, 0), (.aload_n 0, 26, 0, 0, 0, 0, 0), (.getfield 9, 29, 2, 1, 0, 0, 0), am_dum, am_dum, (.iload 4, 31, 4, 0, 0, 0, 0), am_dum, 
  (.laload, 32, 0, 0, 0, 0, 0), (.invokestatic 39, 35, 80, 3, 1, 0, 0), am_dum, am_dum, (.isub, 36, 0, 0, 0, 0, 0), (.istore 5, 38, 5, 0, 0, 0, 0), am_dum, (.iload 5, 40, 5, 0, 0, 0, 0), am_dum, (.iconst 3, 41, 0, 0, 0, 3, 0), 
  (.if_icmp .lt 52, 44, 93, 0, 0, 0, 0), am_dum, am_dum, (.aload_n 0, 45, 0, 0, 0, 0, 0), (.getfield 9, 48, 2, 1, 0, 0, 0), am_dum, am_dum, (.iload 4, 50, 4, 0, 0, 0, 0), am_dum, (.laload, 51, 0, 0, 0, 0, 0), 
  (.lload_n 1, 52, 1, 0, 0, 0, 0), (.invokestatic 45, 55, 14, 3, 2, 0, 0), am_dum, am_dum, (.ifCond .eq 38, 58, 93, 0, 0, 0, 0), am_dum, am_dum, (.lload_n 1, 59, 1, 0, 0, 0, 0), (.bipush 12, 61, 0, 0, 0, 12, 0), am_dum, 
  (.iload 5, 63, 5, 0, 0, 0, 0), am_dum, (.isub, 64, 0, 0, 0, 0, 0), (.invokestatic 49, 67, 79, 3, 2, 0, 0), am_dum, am_dum, (.lstore 6, 69, 6, 0, 0, 0, 0), am_dum, (.lload 6, 71, 6, 0, 0, 0, 0), am_dum, 
  (.bipush 12, 73, 0, 0, 0, 12, 0), am_dum, (.iload 5, 75, 5, 0, 0, 0, 0), am_dum, (.isub, 76, 0, 0, 0, 0, 0), (.invokestatic 53, 79, 78, 3, 2, 0, 0), am_dum, am_dum, (.aload_n 0, 80, 0, 0, 0, 0, 0), 
  (.getfield 13, 83, 2, 2, 0, 0, 0), am_dum, am_dum, (.iload 4, 85, 4, 0, 0, 0, 0), am_dum, (.laload, 86, 0, 0, 0, 0, 0), (.iload 5, 88, 5, 0, 0, 0, 0), am_dum, (.invokestatic 49, 91, 79, 3, 2, 0, 0), am_dum, am_dum, 
  (.ladd, 92, 0, 0, 0, 0, 0), (.lreturn, 93, 0, 0, 0, 0, 0), (.iinc 4 1, 96, 4, 0, 0, 1, 0), am_dum, am_dum, (.goto (-88), 99, 8, 0, 0, 0, 0), am_dum, am_dum, (.lload_n 1, 100, 1, 0, 0, 0, 0), (.lreturn, 101, 0, 0, 0, 0, 0)]
def k_La_isEnding : List am_e := [
  (.lload_n 0, 1, 0, 0, 0, 0, 0), (.invokestatic 39, 4, 80, 3, 1, 0, 0), am_dum, am_dum, (.istore 4, 6, 4, 0, 0, 0, 0), am_dum, (.lload_n 0, 7, 0, 0, 0, 0, 0), (.bipush 12, 9, 0, 0, 0, 12, 0), am_dum, (.iload 4, 11, 4, 0, 0, 0, 0), 
  am_dum, (.isub, 12, 0, 0, 0, 0, 0), (.invokestatic 49, 15, 79, 3, 2, 0, 0), am_dum, am_dum, (.lstore 5, 17, 5, 0, 0, 0, 0), am_dum, (.lload_n 2, 18, 2, 0, 0, 0, 0), (.bipush 12, 20, 0, 0, 0, 12, 0), am_dum, 
  (.lload_n 2, 21, 2, 0, 0, 0, 0), (.invokestatic 39, 24, 80, 3, 1, 0, 0), am_dum, am_dum, (.isub, 25, 0, 0, 0, 0, 0), (.invokestatic 49, 28, 79, 3, 2, 0, 0), am_dum, am_dum, (.lstore 7, 30, 7, 0, 0, 0, 0), am_dum, 
  (.lload 7, 32, 7, 0, 0, 0, 0), am_dum, (.iload 4, 34, 4, 0, 0, 0, 0), am_dum, (.invokestatic 49, 37, 79, 3, 2, 0, 0), am_dum, am_dum, (.lstore 9, 39, 9, 0, 0, 0, 0), am_dum, (.lload 7, 41, 7, 0, 0, 0, 0), am_dum, 
  (.lload 9, 43, 9, 0, 0, 0, 0), am_dum, (.iload 4, 45, 4, 0, 0, 0, 0), am_dum, (.invokestatic 53, 48, 78, 3, 2, 0, 0), am_dum, am_dum, (.lsub, 49, 0, 0, 0, 0, 0), (.lload 5, 51, 5, 0, 0, 0, 0), am_dum, (.lcmp, 52, 0, 0, 0, 0, 0), 
  (.ifCond .ne 7, 55, 59, 0, 0, 0, 0), am_dum, am_dum, (.iconst 1, 56, 0, 0, 0, 1, 0), (.goto 4, 59, 60, 0, 0, 0, 0), am_dum, am_dum, (.iconst 0, 60, 0, 0, 0, 0, 0), (.ireturn, 61, 1, 0, 0, 0, 0)]
def k_La_stemInTexts : List am_e := [
  (.aload_n 0, 1, 0, 0, 0, 0, 0), (.lload_n 1, 2, 1, 0, 0, 0, 0), (.invokevirtual 26, 5, 9, 0, 1, 0, 0), am_dum, am_dum, (.ifCond .eq 7, 8, 12, 0, 0, 0, 0), am_dum, am_dum, (.lconst 0, 9, 0, 0, 0, 0, 0), 
  (.goto 8, 12, 17, 0, 0, 0, 0), am_dum, am_dum, (.aload_n 0, 13, 0, 0, 0, 0, 0), (.lload_n 1, 14, 1, 0, 0, 0, 0), (.invokevirtual 56, 17, 13, 0, 1, 0, 0), am_dum, am_dum, (.lreturn, 18, 0, 0, 0, 0, 0)]
def k_Li_init : List am_e := [
  (.aload_n 0, 1, 0, 0, 0, 0, 0), (.invokespecial 3, 4, 0, 4, 0, 0, 0), am_dum, am_dum, (.aload_n 0, 5, 0, 0, 0, 0, 0), (.sipush 400, 8, 0, 0, 0, 400, 0), am_dum, am_dum, (.newarray .long, 10, 3, 0, 0, 0, 0), am_dum, 
  (.putfield 11, 13, 7, 0, 0, 0, 0), am_dum, am_dum, (.aload_n 0, 14, 0, 0, 0, 0, 0), (.sipush 400, 17, 0, 0, 0, 400, 0), am_dum, am_dum, (.newarray .int, 19, 0, 0, 0, 0, 0), am_dum, (.putfield 17, 22, 7, 1, 0, 0, 0), am_dum, 
  am_dum, (.aload_n 0, 23, 0, 0, 0, 0, 0), (.bipush 12, 25, 0, 0, 0, 12, 0), am_dum, (.newarray .int, 27, 0, 0, 0, 0, 0), am_dum, (.putfield 23, 30, 7, 3, 0, 0, 0), am_dum, am_dum, (.aload_n 0, 31, 0, 0, 0, 0, 0), 
  (.bipush 12, 33, 0, 0, 0, 12, 0), am_dum, (.newarray .int, 35, 0, 0, 0, 0, 0), am_dum, (.putfield 26, 38, 7, 5, 0, 0, 0), am_dum, am_dum, (.aload_n 0, 39, 0, 0, 0, 0, 0), (.bipush 13, 41, 0, 0, 0, 13, 0), am_dum, 
  (.newarray .int, 43, 0, 0, 0, 0, 0), am_dum, (.putfield 29, 46, 7, 6, 0, 0, 0), am_dum, am_dum, (.return_, 47, 0, 0, 0, 0, 0)]
def k_Li_clear : List am_e := [
  (.aload_n 0, 1, 0, 0, 0, 0, 0), (.iconst 0, 2, 0, 0, 0, 0, 0), (.putfield 32, 5, 7, 2, 0, 0, 0), am_dum, am_dum, (.return_, 6, 0, 0, 0, 0, 0)]
def k_Li_count : List am_e := [
  (.aload_n 0, 1, 0, 0, 0, 0, 0), (.getfield 32, 4, 7, 2, 0, 0, 0), am_dum, am_dum, (.ireturn, 5, 0, 0, 0, 0, 0)]
def k_Li_wordAt : List am_e := [
  (.iload_n 1, 1, 1, 0, 0, 0, 0), (.ifCond .lt 29, 4, 30, 0, 0, 0, 0), am_dum, am_dum, (.iload_n 1, 5, 1, 0, 0, 0, 0), (.aload_n 0, 6, 0, 0, 0, 0, 0), (.getfield 32, 9, 7, 2, 0, 0, 0), am_dum, am_dum, 
  (.if_icmp .ge 21, 12, 30, 0, 0, 0, 0), am_dum, am_dum, (.iload_n 1, 13, 1, 0, 0, 0, 0), (.aload_n 0, 14, 0, 0, 0, 0, 0), (.getfield 11, 17, 7, 0, 0, 0, 0), am_dum, am_dum, (.arraylength, 18, 0, 0, 0, 0, 0), 
  (.if_icmp .ge 12, 21, 30, 0, 0, 0, 0), am_dum, am_dum, (.aload_n 0, 22, 0, 0, 0, 0, 0), (.getfield 11, 25, 7, 0, 0, 0, 0), am_dum, am_dum, (.iload_n 1, 26, 1, 0, 0, 0, 0), (.laload, 27, 0, 0, 0, 0, 0), 
  (.goto 4, 30, 31, 0, 0, 0, 0), am_dum, am_dum, (.lconst 0, 31, 0, 0, 0, 0, 0), (.lreturn, 32, 0, 0, 0, 0, 0)]
def k_Li_search : List am_e := [
  (.aload_n 0, 1, 0, 0, 0, 0, 0), (.lload_n 3, 2, 3, 0, 0, 0, 0), (.aload_n 0, 3, 0, 0, 0, 0, 0), (.getfield 23, 6, 7, 3, 0, 0, 0), am_dum, am_dum, (.invokestatic 36, 9, 83, 3, 2, 0, 0), am_dum, am_dum, 
  (.putfield 40, 12, 7, 4, 0, 0, 0), am_dum, am_dum, (.iconst 0, 13, 0, 0, 0, 0, 0), (.istore 6, 15, 6, 0, 0, 0, 0), am_dum, (.iload 6, 17, 6, 0, 0, 0, 0), am_dum, (.bipush 40, 19, 0, 0, 0, 40, 0), am_dum, 
  (.if_icmp .ge 65, 22, 84, 0, 0, 0, 0), am_dum, am_dum, (.aload_n 1, 23, 1, 0, 0, 0, 0), (.iload 6, 25, 6, 0, 0, 0, 0), am_dum, (.iload_n 2, 26, 2, 0, 0, 0, 0), (.iconst (-1), 27, 0, 0, 0, -1, 0), 
  (.invokevirtual 43, 30, 45, 0, 3, 0, 0), am_dum, am_dum, (.ifCond .eq 12, 33, 42, 0, 0, 0, 0), am_dum, am_dum, (.aload_n 1, 34, 1, 0, 0, 0, 0), (.iload 6, 36, 6, 0, 0, 0, 0), am_dum, (.invokevirtual 47, 39, 47, 0, 1, 0, 0), 
  am_dum, am_dum, (.goto 4, 42, 43, 0, 0, 0, 0), am_dum, am_dum, (.iconst 0, 43, 0, 0, 0, 0, 0), (.istore 7, 45, 7, 0, 0, 0, 0), am_dum, (.aload_n 1, 46, 1, 0, 0, 0, 0), (.iload 6, 48, 6, 0, 0, 0, 0), am_dum, 
  (.invokevirtual 51, 51, 46, 0, 1, 0, 0), am_dum, am_dum, (.istore 8, 53, 8, 0, 0, 0, 0), am_dum, (.iload 8, 55, 8, 0, 0, 0, 0), am_dum, (.iload 7, 57, 7, 0, 0, 0, 0), am_dum, (.if_icmp .ge 21, 60, 78, 0, 0, 0, 0), am_dum, am_dum, 
  (.aload_n 0, 61, 0, 0, 0, 0, 0), (.aload_n 1, 62, 1, 0, 0, 0, 0), (.iload 8, 64, 8, 0, 0, 0, 0), am_dum, (.invokevirtual 54, 67, 61, 0, 1, 0, 0), am_dum, am_dum, (.iload 5, 69, 5, 0, 0, 0, 0), am_dum, 
  (.invokevirtual 58, 72, 21, 0, 2, 0, 0), am_dum, am_dum, (.iinc 8 1, 75, 8, 0, 0, 1, 0), am_dum, am_dum, (.goto (-22), 78, 53, 0, 0, 0, 0), am_dum, am_dum, (.iinc 6 1, 81, 6, 0, 0, 1, 0), am_dum, am_dum, 
  (.goto (-66), 84, 15, 0, 0, 0, 0), am_dum, am_dum, (.return_, 85, 0, 0, 0, 0, 0)]
def k_Li_offer : List am_e := [
  (.lload_n 1, 1, 1, 0, 0, 0, 0), (.lconst 0, 2, 0, 0, 0, 0, 0), (.lcmp, 3, 0, 0, 0, 0, 0), (.ifCond .eq 11, 6, 14, 0, 0, 0, 0), am_dum, am_dum, (.aload_n 0, 7, 0, 0, 0, 0, 0), (.lload_n 1, 8, 1, 0, 0, 0, 0), 
  (.invokevirtual 62, 11, 22, 0, 1, 0, 0), am_dum, am_dum, (.ifCond .eq 4, 14, 15, 0, 0, 0, 0), am_dum, am_dum, (.return_, 15, 0, 0, 0, 0, 0), (.aload_n 0, 16, 0, 0, 0, 0, 0), (.lload_n 1, 17, 1, 0, 0, 0, 0), 
  (.aload_n 0, 18, 0, 0, 0, 0, 0), (.getfield 26, 21, 7, 5, 0, 0, 0), am_dum, am_dum, (.invokestatic 36, 24, 83, 3, 2, 0, 0), am_dum, am_dum, (.invokevirtual 66, 27, 25, 0, 1, 0, 0), am_dum, am_dum, (.istore 4, 29, 4, 0, 0, 0, 0), 
  am_dum, (.iload 4, 31, 4, 0, 0, 0, 0), am_dum, (.iload_n 3, 32, 3, 0, 0, 0, 0), (.if_icmp .gt 10, 35, 42, 0, 0, 0, 0), am_dum, am_dum, (.aload_n 0, 36, 0, 0, 0, 0, 0), (.lload_n 1, 37, 1, 0, 0, 0, 0), 
  (.iload 4, 39, 4, 0, 0, 0, 0), am_dum, (.invokevirtual 69, 42, 23, 0, 2, 0, 0), am_dum, am_dum, (.return_, 43, 0, 0, 0, 0, 0)]
def k_Li_holds : List am_e := [
  (.iconst 0, 1, 0, 0, 0, 0, 0), (.istore_n 3, 2, 3, 0, 0, 0, 0), (.iload_n 3, 3, 3, 0, 0, 0, 0), (.aload_n 0, 4, 0, 0, 0, 0, 0), (.getfield 32, 7, 7, 2, 0, 0, 0), am_dum, am_dum, (.if_icmp .ge 31, 10, 38, 0, 0, 0, 0), am_dum, 
  am_dum, (.iload_n 3, 11, 3, 0, 0, 0, 0), (.aload_n 0, 12, 0, 0, 0, 0, 0), (.getfield 11, 15, 7, 0, 0, 0, 0), am_dum, am_dum, (.arraylength, 16, 0, 0, 0, 0, 0), (.if_icmp .ge 22, 19, 38, 0, 0, 0, 0), am_dum, am_dum, 
  (.aload_n 0, 20, 0, 0, 0, 0, 0), (.getfield 11, 23, 7, 0, 0, 0, 0), am_dum, am_dum, (.iload_n 3, 24, 3, 0, 0, 0, 0), (.laload, 25, 0, 0, 0, 0, 0), (.lload_n 1, 26, 1, 0, 0, 0, 0), (.lcmp, 27, 0, 0, 0, 0, 0), 
  (.ifCond .ne 5, 30, 32, 0, 0, 0, 0), am_dum, am_dum, (.iconst 1, 31, 0, 0, 0, 1, 0), (.ireturn, 32, 1, 0, 0, 0, 0), (.iinc 3 1, 35, 3, 0, 0, 1, 0), am_dum, am_dum, (.goto (-33), 38, 2, 0, 0, 0, 0), am_dum, am_dum, 
  (.iconst 0, 39, 0, 0, 0, 0, 0), (.ireturn, 40, 1, 0, 0, 0, 0)]
def k_Li_insert : List am_e := [
  (.aload_n 0, 1, 0, 0, 0, 0, 0), (.getfield 32, 4, 7, 2, 0, 0, 0), am_dum, am_dum, (.aload_n 0, 5, 0, 0, 0, 0, 0), (.getfield 11, 8, 7, 0, 0, 0, 0), am_dum, am_dum, (.arraylength, 9, 0, 0, 0, 0, 0), 
  (.if_icmp .lt 4, 12, 13, 0, 0, 0, 0), am_dum, am_dum, (.return_, 13, 0, 0, 0, 0, 0), (.aload_n 0, 14, 0, 0, 0, 0, 0), (.getfield 32, 17, 7, 2, 0, 0, 0), am_dum, am_dum, (.istore 4, 19, 4, 0, 0, 0, 0), am_dum, 
  (.iload 4, 21, 4, 0, 0, 0, 0), am_dum, (.ifCond .le 54, 24, 75, 0, 0, 0, 0), am_dum, am_dum, (.aload_n 0, 25, 0, 0, 0, 0, 0), (.lload_n 1, 26, 1, 0, 0, 0, 0), (.iload_n 3, 27, 3, 0, 0, 0, 0), (.iload 4, 29, 4, 0, 0, 0, 0), 
  am_dum, (.iconst 1, 30, 0, 0, 0, 1, 0), (.isub, 31, 0, 0, 0, 0, 0), (.invokevirtual 72, 34, 24, 0, 3, 0, 0), am_dum, am_dum, (.ifCond .eq 41, 37, 75, 0, 0, 0, 0), am_dum, am_dum, (.aload_n 0, 38, 0, 0, 0, 0, 0), 
  (.getfield 11, 41, 7, 0, 0, 0, 0), am_dum, am_dum, (.iload 4, 43, 4, 0, 0, 0, 0), am_dum, (.aload_n 0, 44, 0, 0, 0, 0, 0), (.getfield 11, 47, 7, 0, 0, 0, 0), am_dum, am_dum, (.iload 4, 49, 4, 0, 0, 0, 0), am_dum, 
  (.iconst 1, 50, 0, 0, 0, 1, 0), (.isub, 51, 0, 0, 0, 0, 0), (.laload, 52, 0, 0, 0, 0, 0), (.lastore, 53, 0, 0, 0, 0, 0), (.aload_n 0, 54, 0, 0, 0, 0, 0), (.getfield 17, 57, 7, 1, 0, 0, 0), am_dum, am_dum, 
  (.iload 4, 59, 4, 0, 0, 0, 0), am_dum, (.aload_n 0, 60, 0, 0, 0, 0, 0), (.getfield 17, 63, 7, 1, 0, 0, 0), am_dum, am_dum, (.iload 4, 65, 4, 0, 0, 0, 0), am_dum, (.iconst 1, 66, 0, 0, 0, 1, 0), (.isub, 67, 0, 0, 0, 0, 0), 
  (.iaload, 68, 0, 0, 0, 0, 0), (.iastore, 69, 0, 0, 0, 0, 0), (.iinc 4 (-1), 72, 4, 0, 0, -1, 0), am_dum, am_dum, (.goto (-53), 75, 19, 0, 0, 0, 0), am_dum, am_dum, (.aload_n 0, 76, 0, 0, 0, 0, 0), 
  (.getfield 11, 79, 7, 0, 0, 0, 0), am_dum, am_dum, (.iload 4, 81, 4, 0, 0, 0, 0), am_dum, (.lload_n 1, 82, 1, 0, 0, 0, 0), (.lastore, 83, 0, 0, 0, 0, 0), (.aload_n 0, 84, 0, 0, 0, 0, 0), (.getfield 17, 87, 7, 1, 0, 0, 0), am_dum, 
  am_dum, (.iload 4, 89, 4, 0, 0, 0, 0), am_dum, (.iload_n 3, 90, 3, 0, 0, 0, 0), (.iastore, 91, 0, 0, 0, 0, 0), (.aload_n 0, 92, 0, 0, 0, 0, 0), (.dup, 93, 0, 0, 0, 0, 0), (.getfield 32, 96, 7, 2, 0, 0, 0), am_dum, am_dum, 
  (.iconst 1, 97, 0, 0, 0, 1, 0), (.iadd, 98, 0, 0, 0, 0, 0), (.putfield 32, 101, 7, 2, 0, 0, 0), am_dum, am_dum, (.return_, 102, 0, 0, 0, 0, 0)]
def k_Li_standsBefore : List am_e := [
  (.iload 4, 2, 4, 0, 0, 0, 0), am_dum, (.ifCond .lt 13, 5, 15, 0, 0, 0, 0), am_dum, am_dum, (.iload 4, 7, 4, 0, 0, 0, 0), am_dum, (.aload_n 0, 8, 0, 0, 0, 0, 0), (.getfield 11, 11, 7, 0, 0, 0, 0), am_dum, am_dum, 
  (.arraylength, 12, 0, 0, 0, 0, 0), (.if_icmp .lt 5, 15, 17, 0, 0, 0, 0), am_dum, am_dum, (.iconst 0, 16, 0, 0, 0, 0, 0), (.ireturn, 17, 1, 0, 0, 0, 0), (.iload_n 3, 18, 3, 0, 0, 0, 0), (.aload_n 0, 19, 0, 0, 0, 0, 0), 
  (.getfield 17, 22, 7, 1, 0, 0, 0), am_dum, am_dum, (.iload 4, 24, 4, 0, 0, 0, 0), am_dum, (.iaload, 25, 0, 0, 0, 0, 0), (.if_icmp .lt 26, 28, 51, 0, 0, 0, 0), am_dum, am_dum, (.iload_n 3, 29, 3, 0, 0, 0, 0), 
  (.aload_n 0, 30, 0, 0, 0, 0, 0), (.getfield 17, 33, 7, 1, 0, 0, 0), am_dum, am_dum, (.iload 4, 35, 4, 0, 0, 0, 0), am_dum, (.iaload, 36, 0, 0, 0, 0, 0), (.if_icmp .ne 19, 39, 55, 0, 0, 0, 0), am_dum, am_dum, 
  (.lload_n 1, 40, 1, 0, 0, 0, 0), (.aload_n 0, 41, 0, 0, 0, 0, 0), (.getfield 11, 44, 7, 0, 0, 0, 0), am_dum, am_dum, (.iload 4, 46, 4, 0, 0, 0, 0), am_dum, (.laload, 47, 0, 0, 0, 0, 0), (.lcmp, 48, 0, 0, 0, 0, 0), 
  (.ifCond .ge 7, 51, 55, 0, 0, 0, 0), am_dum, am_dum, (.iconst 1, 52, 0, 0, 0, 1, 0), (.goto 4, 55, 56, 0, 0, 0, 0), am_dum, am_dum, (.iconst 0, 56, 0, 0, 0, 0, 0), (.ireturn, 57, 1, 0, 0, 0, 0)]
def k_Li_changesNeeded : List am_e := [
  (.iload_n 1, 1, 1, 0, 0, 0, 0), (.aload_n 0, 2, 0, 0, 0, 0, 0), (.getfield 26, 5, 7, 5, 0, 0, 0), am_dum, am_dum, (.arraylength, 6, 0, 0, 0, 0, 0), (.invokestatic 76, 9, 0, 8, 2, 0, 0), am_dum, am_dum, 
  (.istore_n 2, 10, 2, 0, 0, 0, 0), (.iconst 0, 11, 0, 0, 0, 0, 0), (.istore_n 3, 12, 3, 0, 0, 0, 0), (.iload_n 3, 13, 3, 0, 0, 0, 0), (.iload_n 2, 14, 2, 0, 0, 0, 0), (.if_icmp .gt 16, 17, 30, 0, 0, 0, 0), am_dum, am_dum, 
  (.aload_n 0, 18, 0, 0, 0, 0, 0), (.getfield 29, 21, 7, 6, 0, 0, 0), am_dum, am_dum, (.iload_n 3, 22, 3, 0, 0, 0, 0), (.iload_n 3, 23, 3, 0, 0, 0, 0), (.iastore, 24, 0, 0, 0, 0, 0), (.iinc 3 1, 27, 3, 0, 0, 1, 0), am_dum, am_dum, 
  (.goto (-15), 30, 12, 0, 0, 0, 0), am_dum, am_dum, (.iconst 0, 31, 0, 0, 0, 0, 0), (.istore_n 3, 32, 3, 0, 0, 0, 0), (.iload_n 3, 33, 3, 0, 0, 0, 0), (.aload_n 0, 34, 0, 0, 0, 0, 0), (.getfield 40, 37, 7, 4, 0, 0, 0), am_dum, 
  am_dum, (.if_icmp .ge 120, 40, 157, 0, 0, 0, 0), am_dum, am_dum, (.iload_n 3, 41, 3, 0, 0, 0, 0), (.aload_n 0, 42, 0, 0, 0, 0, 0), (.getfield 23, 45, 7, 3, 0, 0, 0), am_dum, am_dum, (.arraylength, 46, 0, 0, 0, 0, 0), 
  (.if_icmp .ge 111, 49, 157, 0, 0, 0, 0), am_dum, am_dum, (.aload_n 0, 50, 0, 0, 0, 0, 0), (.getfield 29, 53, 7, 6, 0, 0, 0), am_dum, am_dum, (.iconst 0, 54, 0, 0, 0, 0, 0), (.iaload, 55, 0, 0, 0, 0, 0), 
  (.istore 4, 57, 4, 0, 0, 0, 0), am_dum, (.aload_n 0, 58, 0, 0, 0, 0, 0), (.getfield 29, 61, 7, 6, 0, 0, 0), am_dum, am_dum, (.iconst 0, 62, 0, 0, 0, 0, 0), (.iload_n 3, 63, 3, 0, 0, 0, 0), (.iconst 1, 64, 0, 0, 0, 1, 0), 
  (.iadd, 65, 0, 0, 0, 0, 0), (.iastore, 66, 0, 0, 0, 0, 0), (.iconst 1, 67, 0, 0, 0, 1, 0), (.istore 5, 69, 5, 0, 0, 0, 0), am_dum, (.iload 5, 71, 5, 0, 0, 0, 0), am_dum, (.iload_n 2, 72, 2, 0, 0, 0, 0), 
  (.if_icmp .gt 79, 75, 151, 0, 0, 0, 0), am_dum, am_dum, (.iload 4, 77, 4, 0, 0, 0, 0), am_dum, (.aload_n 0, 78, 0, 0, 0, 0, 0), (.getfield 23, 81, 7, 3, 0, 0, 0), am_dum, am_dum, (.iload_n 3, 82, 3, 0, 0, 0, 0), 
  (.iaload, 83, 0, 0, 0, 0, 0), (.aload_n 0, 84, 0, 0, 0, 0, 0), (.getfield 26, 87, 7, 5, 0, 0, 0), am_dum, am_dum, (.iload 5, 89, 5, 0, 0, 0, 0), am_dum, (.iconst 1, 90, 0, 0, 0, 1, 0), (.isub, 91, 0, 0, 0, 0, 0), 
  (.iaload, 92, 0, 0, 0, 0, 0), (.if_icmp .ne 7, 95, 99, 0, 0, 0, 0), am_dum, am_dum, (.iconst 0, 96, 0, 0, 0, 0, 0), (.goto 4, 99, 100, 0, 0, 0, 0), am_dum, am_dum, (.iconst 1, 100, 0, 0, 0, 1, 0), (.iadd, 101, 0, 0, 0, 0, 0), 
  (.istore 6, 103, 6, 0, 0, 0, 0), am_dum, (.aload_n 0, 104, 0, 0, 0, 0, 0), (.getfield 29, 107, 7, 6, 0, 0, 0), am_dum, am_dum, (.iload 5, 109, 5, 0, 0, 0, 0), am_dum, (.iaload, 110, 0, 0, 0, 0, 0), 
  (.istore 4, 112, 4, 0, 0, 0, 0), am_dum, (.aload_n 0, 113, 0, 0, 0, 0, 0), (.getfield 29, 116, 7, 6, 0, 0, 0), am_dum, am_dum, (.iload 5, 118, 5, 0, 0, 0, 0), am_dum, (.iload 6, 120, 6, 0, 0, 0, 0), am_dum, 
  (.iconst 1, 121, 0, 0, 0, 1, 0), (.aload_n 0, 122, 0, 0, 0, 0, 0), (.getfield 29, 125, 7, 6, 0, 0, 0), am_dum, am_dum, (.iload 5, 127, 5, 0, 0, 0, 0), am_dum, (.iaload, 128, 0, 0, 0, 0, 0), (.aload_n 0, 129, 0, 0, 0, 0, 0), 
  (.getfield 29, 132, 7, 6, 0, 0, 0), am_dum, am_dum, (.iload 5, 134, 5, 0, 0, 0, 0), am_dum, (.iconst 1, 135, 0, 0, 0, 1, 0), (.isub, 136, 0, 0, 0, 0, 0), (.iaload, 137, 0, 0, 0, 0, 0), (.invokestatic 76, 140, 0, 8, 2, 0, 0), 
  am_dum, am_dum, (.iadd, 141, 0, 0, 0, 0, 0), (.invokestatic 76, 144, 0, 8, 2, 0, 0), am_dum, am_dum, (.iastore, 145, 0, 0, 0, 0, 0), (.iinc 5 1, 148, 5, 0, 0, 1, 0), am_dum, am_dum, (.goto (-79), 151, 69, 0, 0, 0, 0), am_dum, 
  am_dum, (.iinc 3 1, 154, 3, 0, 0, 1, 0), am_dum, am_dum, (.goto (-122), 157, 32, 0, 0, 0, 0), am_dum, am_dum, (.iload_n 2, 158, 2, 0, 0, 0, 0), (.ifCond .lt 12, 161, 170, 0, 0, 0, 0), am_dum, am_dum, 
  (.aload_n 0, 162, 0, 0, 0, 0, 0), (.getfield 29, 165, 7, 6, 0, 0, 0), am_dum, am_dum, (.iload_n 2, 166, 2, 0, 0, 0, 0), (.iaload, 167, 0, 0, 0, 0, 0), (.goto 4, 170, 171, 0, 0, 0, 0), am_dum, am_dum, 
  (.iconst 0, 171, 0, 0, 0, 0, 0), (.ireturn, 172, 0, 0, 0, 0, 0)]
def k_Pa_init : List am_e := [
  (.aload_n 0, 1, 0, 0, 0, 0, 0), (.invokespecial 1, 4, 0, 4, 0, 0, 0), am_dum, am_dum, (.aload_n 0, 5, 0, 0, 0, 0, 0), (.aload_n 1, 6, 1, 0, 0, 0, 0), (.putfield 7, 9, 9, 0, 0, 0, 0), am_dum, am_dum, 
  (.aload_n 0, 10, 0, 0, 0, 0, 0), (.iload_n 2, 11, 2, 0, 0, 0, 0), (.putfield 13, 14, 9, 1, 0, 0, 0), am_dum, am_dum, (.aload_n 0, 15, 0, 0, 0, 0, 0), (.iload_n 3, 16, 3, 0, 0, 0, 0), (.putfield 17, 19, 9, 2, 0, 0, 0), am_dum, 
  am_dum, (.aload_n 0, 20, 0, 0, 0, 0, 0), (.iload 4, 22, 4, 0, 0, 0, 0), am_dum, (.putfield 21, 25, 9, 3, 0, 0, 0), am_dum, am_dum, (.aload_n 0, 26, 0, 0, 0, 0, 0), (.iload 5, 28, 5, 0, 0, 0, 0), am_dum, 
  (.putfield 24, 31, 9, 4, 0, 0, 0), am_dum, am_dum, (.return_, 32, 0, 0, 0, 0, 0)]
def k_Qu_init : List am_e := [
  (.aload_n 0, 1, 0, 0, 0, 0, 0), (.invokespecial 3, 4, 0, 4, 0, 0, 0), am_dum, am_dum, (.aload_n 0, 5, 0, 0, 0, 0, 0), (.new 9, 8, 5, 0, 0, 0, 0), am_dum, am_dum, (.dup, 9, 0, 0, 0, 0, 0), (.invokespecial 11, 12, 155, 1, 0, 0, 0), 
  am_dum, am_dum, (.putfield 12, 15, 4, 1, 0, 0, 0), am_dum, am_dum, (.aload_n 0, 16, 0, 0, 0, 0, 0), (.bipush 48, 18, 0, 0, 0, 48, 0), am_dum, (.newarray .long, 20, 3, 0, 0, 0, 0), am_dum, (.putfield 20, 23, 4, 2, 0, 0, 0), 
  am_dum, am_dum, (.aload_n 0, 24, 0, 0, 0, 0, 0), (.bipush 48, 26, 0, 0, 0, 48, 0), am_dum, (.newarray .long, 28, 3, 0, 0, 0, 0), am_dum, (.putfield 24, 31, 4, 4, 0, 0, 0), am_dum, am_dum, (.aload_n 0, 32, 0, 0, 0, 0, 0), 
  (.bipush 48, 34, 0, 0, 0, 48, 0), am_dum, (.newarray .long, 36, 3, 0, 0, 0, 0), am_dum, (.putfield 27, 39, 4, 5, 0, 0, 0), am_dum, am_dum, (.aload_n 0, 40, 0, 0, 0, 0, 0), (.aload_n 1, 41, 1, 0, 0, 0, 0), 
  (.putfield 30, 44, 4, 0, 0, 0, 0), am_dum, am_dum, (.return_, 45, 0, 0, 0, 0, 0)]
def k_Qu_read : List am_e := [
  (.aload_n 0, 1, 0, 0, 0, 0, 0), (.getfield 12, 4, 4, 1, 0, 0, 0), am_dum, am_dum, (.invokevirtual 34, 7, 163, 0, 0, 0, 0), am_dum, am_dum, (.aload_n 0, 8, 0, 0, 0, 0, 0), (.iconst 0, 9, 0, 0, 0, 0, 0), 
  (.putfield 37, 12, 4, 3, 0, 0, 0), am_dum, am_dum, (.aload_n 0, 13, 0, 0, 0, 0, 0), (.iconst 0, 14, 0, 0, 0, 0, 0), (.putfield 41, 17, 4, 7, 0, 0, 0), am_dum, am_dum, (.aload_n 0, 18, 0, 0, 0, 0, 0), 
  (.iconst 0, 19, 0, 0, 0, 0, 0), (.putfield 44, 22, 4, 8, 0, 0, 0), am_dum, am_dum, (.iconst 1, 23, 0, 0, 0, 1, 0), (.istore_n 1, 24, 1, 0, 0, 0, 0), (.iconst 0, 25, 0, 0, 0, 0, 0), (.istore_n 2, 26, 2, 0, 0, 0, 0), 
  (.iload_n 2, 27, 2, 0, 0, 0, 0), (.bipush 96, 29, 0, 0, 0, 96, 0), am_dum, (.if_icmp .gt 102, 32, 131, 0, 0, 0, 0), am_dum, am_dum, (.aload_n 0, 33, 0, 0, 0, 0, 0), (.invokevirtual 47, 36, 29, 0, 0, 0, 0), am_dum, am_dum, 
  (.aload_n 0, 37, 0, 0, 0, 0, 0), (.getfield 41, 40, 4, 7, 0, 0, 0), am_dum, am_dum, (.aload_n 0, 41, 0, 0, 0, 0, 0), (.getfield 30, 44, 4, 0, 0, 0, 0), am_dum, am_dum, (.invokevirtual 50, 47, 63, 0, 0, 0, 0), am_dum, am_dum, 
  (.if_icmp .lt 16, 50, 63, 0, 0, 0, 0), am_dum, am_dum, (.iload_n 1, 51, 1, 0, 0, 0, 0), (.ifCond .eq 10, 54, 61, 0, 0, 0, 0), am_dum, am_dum, (.aload_n 0, 55, 0, 0, 0, 0, 0), (.getfield 41, 58, 4, 7, 0, 0, 0), am_dum, am_dum, 
  (.goto 4, 61, 62, 0, 0, 0, 0), am_dum, am_dum, (.iconst (-1), 62, 0, 0, 0, -1, 0), (.ireturn, 63, 0, 0, 0, 0, 0), (.iload_n 1, 64, 1, 0, 0, 0, 0), (.ifCond .ne 44, 67, 108, 0, 0, 0, 0), am_dum, am_dum, 
  (.aload_n 0, 68, 0, 0, 0, 0, 0), (.getfield 30, 71, 4, 0, 0, 0, 0), am_dum, am_dum, (.aload_n 0, 72, 0, 0, 0, 0, 0), (.getfield 41, 75, 4, 7, 0, 0, 0), am_dum, am_dum, (.invokevirtual 54, 78, 66, 0, 1, 0, 0), am_dum, am_dum, 
  (.bipush 124, 80, 0, 0, 0, 124, 0), am_dum, (.if_icmp .ne 28, 83, 108, 0, 0, 0, 0), am_dum, am_dum, (.aload_n 0, 84, 0, 0, 0, 0, 0), (.dup, 85, 0, 0, 0, 0, 0), (.getfield 41, 88, 4, 7, 0, 0, 0), am_dum, am_dum, 
  (.iconst 1, 89, 0, 0, 0, 1, 0), (.iadd, 90, 0, 0, 0, 0, 0), (.putfield 41, 93, 4, 7, 0, 0, 0), am_dum, am_dum, (.aload_n 0, 94, 0, 0, 0, 0, 0), (.dup, 95, 0, 0, 0, 0, 0), (.getfield 44, 98, 4, 8, 0, 0, 0), am_dum, am_dum, 
  (.iconst 1, 99, 0, 0, 0, 1, 0), (.iadd, 100, 0, 0, 0, 0, 0), (.putfield 44, 103, 4, 8, 0, 0, 0), am_dum, am_dum, (.iconst 1, 104, 0, 0, 0, 1, 0), (.istore_n 1, 105, 1, 0, 0, 0, 0), (.goto 20, 108, 125, 0, 0, 0, 0), am_dum, 
  am_dum, (.aload_n 0, 109, 0, 0, 0, 0, 0), (.invokevirtual 58, 112, 30, 0, 0, 0, 0), am_dum, am_dum, (.ifCond .eq 8, 115, 120, 0, 0, 0, 0), am_dum, am_dum, (.iconst 0, 116, 0, 0, 0, 0, 0), (.istore_n 1, 117, 1, 0, 0, 0, 0), 
  (.goto 8, 120, 125, 0, 0, 0, 0), am_dum, am_dum, (.aload_n 0, 121, 0, 0, 0, 0, 0), (.getfield 41, 124, 4, 7, 0, 0, 0), am_dum, am_dum, (.ireturn, 125, 0, 0, 0, 0, 0), (.iinc 2 1, 128, 2, 0, 0, 1, 0), am_dum, am_dum, 
  (.goto (-102), 131, 26, 0, 0, 0, 0), am_dum, am_dum, (.aload_n 0, 132, 0, 0, 0, 0, 0), (.getfield 41, 135, 4, 7, 0, 0, 0), am_dum, am_dum, (.ireturn, 136, 0, 0, 0, 0, 0)]
def k_Qu_skipBlanks : List am_e := [
  (.iconst 0, 1, 0, 0, 0, 0, 0), (.istore_n 1, 2, 1, 0, 0, 0, 0), (.iload_n 1, 3, 1, 0, 0, 0, 0), (.bipush 96, 5, 0, 0, 0, 96, 0), am_dum, (.if_icmp .ge 35, 8, 40, 0, 0, 0, 0), am_dum, am_dum, (.aload_n 0, 9, 0, 0, 0, 0, 0), 
  (.getfield 30, 12, 4, 0, 0, 0, 0), am_dum, am_dum, (.aload_n 0, 13, 0, 0, 0, 0, 0), (.getfield 41, 16, 4, 7, 0, 0, 0), am_dum, am_dum, (.invokevirtual 54, 19, 66, 0, 1, 0, 0), am_dum, am_dum, (.bipush 32, 21, 0, 0, 0, 32, 0), 
  am_dum, (.if_icmp .ne 19, 24, 40, 0, 0, 0, 0), am_dum, am_dum, (.aload_n 0, 25, 0, 0, 0, 0, 0), (.dup, 26, 0, 0, 0, 0, 0), (.getfield 41, 29, 4, 7, 0, 0, 0), am_dum, am_dum, (.iconst 1, 30, 0, 0, 0, 1, 0), 
  (.iadd, 31, 0, 0, 0, 0, 0), (.putfield 41, 34, 4, 7, 0, 0, 0), am_dum, am_dum, (.iinc 1 1, 37, 1, 0, 0, 1, 0), am_dum, am_dum, (.goto (-35), 40, 2, 0, 0, 0, 0), am_dum, am_dum, (.return_, 41, 0, 0, 0, 0, 0)]
def k_Qu_readPart : List am_e := [
  (.aload_n 0, 1, 0, 0, 0, 0, 0), (.getfield 30, 4, 4, 0, 0, 0, 0), am_dum, am_dum, (.aload_n 0, 5, 0, 0, 0, 0, 0), (.getfield 41, 8, 4, 7, 0, 0, 0), am_dum, am_dum, (.invokevirtual 54, 11, 66, 0, 1, 0, 0), am_dum, am_dum, 
  (.bipush 45, 13, 0, 0, 0, 45, 0), am_dum, (.if_icmp .ne 7, 16, 20, 0, 0, 0, 0), am_dum, am_dum, (.iconst 1, 17, 0, 0, 0, 1, 0), (.goto 4, 20, 21, 0, 0, 0, 0), am_dum, am_dum, (.iconst 0, 21, 0, 0, 0, 0, 0), 
  (.istore_n 1, 22, 1, 0, 0, 0, 0), (.iload_n 1, 23, 1, 0, 0, 0, 0), (.ifCond .eq 13, 26, 36, 0, 0, 0, 0), am_dum, am_dum, (.aload_n 0, 27, 0, 0, 0, 0, 0), (.dup, 28, 0, 0, 0, 0, 0), (.getfield 41, 31, 4, 7, 0, 0, 0), am_dum, 
  am_dum, (.iconst 1, 32, 0, 0, 0, 1, 0), (.iadd, 33, 0, 0, 0, 0, 0), (.putfield 41, 36, 4, 7, 0, 0, 0), am_dum, am_dum, (.aload_n 0, 37, 0, 0, 0, 0, 0), (.getfield 30, 40, 4, 0, 0, 0, 0), am_dum, am_dum, 
  (.aload_n 0, 41, 0, 0, 0, 0, 0), (.getfield 41, 44, 4, 7, 0, 0, 0), am_dum, am_dum, (.invokevirtual 54, 47, 66, 0, 1, 0, 0), am_dum, am_dum, (.bipush 34, 49, 0, 0, 0, 34, 0), am_dum, (.if_icmp .ne 19, 52, 68, 0, 0, 0, 0), am_dum, 
  am_dum, (.aload_n 0, 53, 0, 0, 0, 0, 0), (.dup, 54, 0, 0, 0, 0, 0), (.getfield 41, 57, 4, 7, 0, 0, 0), am_dum, am_dum, (.iconst 1, 58, 0, 0, 0, 1, 0), (.iadd, 59, 0, 0, 0, 0, 0), (.putfield 41, 62, 4, 7, 0, 0, 0), am_dum, am_dum, 
  (.aload_n 0, 63, 0, 0, 0, 0, 0), (.iload_n 1, 64, 1, 0, 0, 0, 0), (.invokevirtual 62, 67, 31, 0, 1, 0, 0), am_dum, am_dum, (.ireturn, 68, 1, 0, 0, 0, 0), (.aload_n 0, 69, 0, 0, 0, 0, 0), (.invokevirtual 66, 72, 32, 0, 0, 0, 0), 
  am_dum, am_dum, (.lstore_n 2, 73, 2, 0, 0, 0, 0), (.lload_n 2, 74, 2, 0, 0, 0, 0), (.lconst 0, 75, 0, 0, 0, 0, 0), (.lcmp, 76, 0, 0, 0, 0, 0), (.ifCond .ne 5, 79, 81, 0, 0, 0, 0), am_dum, am_dum, (.iconst 0, 80, 0, 0, 0, 0, 0), 
  (.ireturn, 81, 1, 0, 0, 0, 0), (.aload_n 0, 82, 0, 0, 0, 0, 0), (.getfield 30, 85, 4, 0, 0, 0, 0), am_dum, am_dum, (.aload_n 0, 86, 0, 0, 0, 0, 0), (.getfield 41, 89, 4, 7, 0, 0, 0), am_dum, am_dum, 
  (.invokevirtual 54, 92, 66, 0, 1, 0, 0), am_dum, am_dum, (.bipush 42, 94, 0, 0, 0, 42, 0), am_dum, (.if_icmp .ne 7, 97, 101, 0, 0, 0, 0), am_dum, am_dum, (.iconst 1, 98, 0, 0, 0, 1, 0), (.goto 4, 101, 102, 0, 0, 0, 0), am_dum, 
  am_dum, (.iconst 0, 102, 0, 0, 0, 0, 0), (.istore 4, 104, 4, 0, 0, 0, 0), am_dum, (.iload 4, 106, 4, 0, 0, 0, 0), am_dum, (.ifCond .eq 13, 109, 119, 0, 0, 0, 0), am_dum, am_dum, (.aload_n 0, 110, 0, 0, 0, 0, 0), 
  (.dup, 111, 0, 0, 0, 0, 0), (.getfield 41, 114, 4, 7, 0, 0, 0), am_dum, am_dum, (.iconst 1, 115, 0, 0, 0, 1, 0), (.iadd, 116, 0, 0, 0, 0, 0), (.putfield 41, 119, 4, 7, 0, 0, 0), am_dum, am_dum, (.aload_n 0, 120, 0, 0, 0, 0, 0), 
  (.getfield 12, 123, 4, 1, 0, 0, 0), am_dum, am_dum, (.new 72, 126, 9, 0, 0, 0, 0), am_dum, am_dum, (.dup, 127, 0, 0, 0, 0, 0), (.iload 4, 129, 4, 0, 0, 0, 0), am_dum, (.ifCond .eq 9, 132, 138, 0, 0, 0, 0), am_dum, am_dum, 
  (.getstatic 74, 135, 2, 0, 0, 0, 0), am_dum, am_dum, (.goto 6, 138, 141, 0, 0, 0, 0), am_dum, am_dum, (.getstatic 80, 141, 1, 0, 0, 0, 0), am_dum, am_dum, (.iload_n 1, 142, 1, 0, 0, 0, 0), (.aload_n 0, 143, 0, 0, 0, 0, 0), 
  (.getfield 44, 146, 4, 8, 0, 0, 0), am_dum, am_dum, (.aload_n 0, 147, 0, 0, 0, 0, 0), (.getfield 37, 150, 4, 3, 0, 0, 0), am_dum, am_dum, (.iconst 1, 151, 0, 0, 0, 1, 0), (.invokespecial 83, 154, 26, 1, 5, 0, 0), am_dum, am_dum, 
  (.invokevirtual 86, 157, 162, 0, 1, 0, 0), am_dum, am_dum, (.pop, 158, 0, 0, 0, 0, 0), (.aload_n 0, 159, 0, 0, 0, 0, 0), (.lload_n 2, 160, 2, 0, 0, 0, 0), (.invokevirtual 90, 163, 33, 0, 1, 0, 0), am_dum, am_dum, 
  (.iconst 1, 164, 0, 0, 0, 1, 0), (.ireturn, 165, 1, 0, 0, 0, 0)]
def k_Qu_readPhrase : List am_e := [
  (.aload_n 0, 1, 0, 0, 0, 0, 0), (.getfield 37, 4, 4, 3, 0, 0, 0), am_dum, am_dum, (.istore_n 2, 5, 2, 0, 0, 0, 0), (.iconst 0, 6, 0, 0, 0, 0, 0), (.istore_n 3, 7, 3, 0, 0, 0, 0), (.iload_n 3, 8, 3, 0, 0, 0, 0), 
  (.bipush 96, 10, 0, 0, 0, 96, 0), am_dum, (.if_icmp .gt 100, 13, 110, 0, 0, 0, 0), am_dum, am_dum, (.aload_n 0, 14, 0, 0, 0, 0, 0), (.invokevirtual 47, 17, 29, 0, 0, 0, 0), am_dum, am_dum, (.aload_n 0, 18, 0, 0, 0, 0, 0), 
  (.getfield 30, 21, 4, 0, 0, 0, 0), am_dum, am_dum, (.aload_n 0, 22, 0, 0, 0, 0, 0), (.getfield 41, 25, 4, 7, 0, 0, 0), am_dum, am_dum, (.invokevirtual 54, 28, 66, 0, 1, 0, 0), am_dum, am_dum, (.bipush 34, 30, 0, 0, 0, 34, 0), 
  am_dum, (.if_icmp .ne 53, 33, 83, 0, 0, 0, 0), am_dum, am_dum, (.aload_n 0, 34, 0, 0, 0, 0, 0), (.getfield 37, 37, 4, 3, 0, 0, 0), am_dum, am_dum, (.iload_n 2, 38, 2, 0, 0, 0, 0), (.if_icmp .le 45, 41, 83, 0, 0, 0, 0), am_dum, 
  am_dum, (.aload_n 0, 42, 0, 0, 0, 0, 0), (.dup, 43, 0, 0, 0, 0, 0), (.getfield 41, 46, 4, 7, 0, 0, 0), am_dum, am_dum, (.iconst 1, 47, 0, 0, 0, 1, 0), (.iadd, 48, 0, 0, 0, 0, 0), (.putfield 41, 51, 4, 7, 0, 0, 0), am_dum, am_dum, 
  (.aload_n 0, 52, 0, 0, 0, 0, 0), (.getfield 12, 55, 4, 1, 0, 0, 0), am_dum, am_dum, (.new 72, 58, 9, 0, 0, 0, 0), am_dum, am_dum, (.dup, 59, 0, 0, 0, 0, 0), (.getstatic 94, 62, 3, 0, 0, 0, 0), am_dum, am_dum, 
  (.iload_n 1, 63, 1, 0, 0, 0, 0), (.aload_n 0, 64, 0, 0, 0, 0, 0), (.getfield 44, 67, 4, 8, 0, 0, 0), am_dum, am_dum, (.iload_n 2, 68, 2, 0, 0, 0, 0), (.aload_n 0, 69, 0, 0, 0, 0, 0), (.getfield 37, 72, 4, 3, 0, 0, 0), am_dum, 
  am_dum, (.iload_n 2, 73, 2, 0, 0, 0, 0), (.isub, 74, 0, 0, 0, 0, 0), (.invokespecial 83, 77, 26, 1, 5, 0, 0), am_dum, am_dum, (.invokevirtual 86, 80, 162, 0, 1, 0, 0), am_dum, am_dum, (.pop, 81, 0, 0, 0, 0, 0), 
  (.iconst 1, 82, 0, 0, 0, 1, 0), (.ireturn, 83, 1, 0, 0, 0, 0), (.aload_n 0, 84, 0, 0, 0, 0, 0), (.invokevirtual 66, 87, 32, 0, 0, 0, 0), am_dum, am_dum, (.lstore 4, 89, 4, 0, 0, 0, 0), am_dum, (.lload 4, 91, 4, 0, 0, 0, 0), 
  am_dum, (.lconst 0, 92, 0, 0, 0, 0, 0), (.lcmp, 93, 0, 0, 0, 0, 0), (.ifCond .ne 5, 96, 98, 0, 0, 0, 0), am_dum, am_dum, (.iconst 0, 97, 0, 0, 0, 0, 0), (.ireturn, 98, 1, 0, 0, 0, 0), (.aload_n 0, 99, 0, 0, 0, 0, 0), 
  (.lload 4, 101, 4, 0, 0, 0, 0), am_dum, (.invokevirtual 90, 104, 33, 0, 1, 0, 0), am_dum, am_dum, (.iinc 3 1, 107, 3, 0, 0, 1, 0), am_dum, am_dum, (.goto (-100), 110, 7, 0, 0, 0, 0), am_dum, am_dum, 
  (.iconst 0, 111, 0, 0, 0, 0, 0), (.ireturn, 112, 1, 0, 0, 0, 0)]
def k_Qu_readWord : List am_e := [
  (.aload_n 0, 1, 0, 0, 0, 0, 0), (.getfield 41, 4, 4, 7, 0, 0, 0), am_dum, am_dum, (.istore_n 1, 5, 1, 0, 0, 0, 0), (.aload_n 0, 6, 0, 0, 0, 0, 0), (.getfield 30, 9, 4, 0, 0, 0, 0), am_dum, am_dum, (.iload_n 1, 10, 1, 0, 0, 0, 0), 
  (.invokevirtual 97, 13, 67, 0, 1, 0, 0), am_dum, am_dum, (.istore_n 2, 14, 2, 0, 0, 0, 0), (.iload_n 2, 15, 2, 0, 0, 0, 0), (.iload_n 1, 16, 1, 0, 0, 0, 0), (.isub, 17, 0, 0, 0, 0, 0), (.bipush 12, 19, 0, 0, 0, 12, 0), am_dum, 
  (.if_icmp .le 13, 22, 32, 0, 0, 0, 0), am_dum, am_dum, (.aload_n 0, 23, 0, 0, 0, 0, 0), (.iload_n 1, 24, 1, 0, 0, 0, 0), (.bipush 12, 26, 0, 0, 0, 12, 0), am_dum, (.iadd, 27, 0, 0, 0, 0, 0), (.putfield 41, 30, 4, 7, 0, 0, 0), 
  am_dum, am_dum, (.lconst 0, 31, 0, 0, 0, 0, 0), (.lreturn, 32, 0, 0, 0, 0, 0), (.aload_n 0, 33, 0, 0, 0, 0, 0), (.iload_n 2, 34, 2, 0, 0, 0, 0), (.putfield 41, 37, 4, 7, 0, 0, 0), am_dum, am_dum, (.aload_n 0, 38, 0, 0, 0, 0, 0), 
  (.getfield 30, 41, 4, 0, 0, 0, 0), am_dum, am_dum, (.iload_n 1, 42, 1, 0, 0, 0, 0), (.iload_n 2, 43, 2, 0, 0, 0, 0), (.invokevirtual 100, 46, 68, 0, 2, 0, 0), am_dum, am_dum, (.lreturn, 47, 0, 0, 0, 0, 0)]
def k_Qu_seek : List am_e := [
  (.aload_n 0, 1, 0, 0, 0, 0, 0), (.getfield 37, 4, 4, 3, 0, 0, 0), am_dum, am_dum, (.aload_n 0, 5, 0, 0, 0, 0, 0), (.getfield 20, 8, 4, 2, 0, 0, 0), am_dum, am_dum, (.arraylength, 9, 0, 0, 0, 0, 0), 
  (.if_icmp .ge 23, 12, 32, 0, 0, 0, 0), am_dum, am_dum, (.aload_n 0, 13, 0, 0, 0, 0, 0), (.getfield 20, 16, 4, 2, 0, 0, 0), am_dum, am_dum, (.aload_n 0, 17, 0, 0, 0, 0, 0), (.getfield 37, 20, 4, 3, 0, 0, 0), am_dum, am_dum, 
  (.lload_n 1, 21, 1, 0, 0, 0, 0), (.lastore, 22, 0, 0, 0, 0, 0), (.aload_n 0, 23, 0, 0, 0, 0, 0), (.dup, 24, 0, 0, 0, 0, 0), (.getfield 37, 27, 4, 3, 0, 0, 0), am_dum, am_dum, (.iconst 1, 28, 0, 0, 0, 1, 0), 
  (.iadd, 29, 0, 0, 0, 0, 0), (.putfield 37, 32, 4, 3, 0, 0, 0), am_dum, am_dum, (.return_, 33, 0, 0, 0, 0, 0)]
def k_Qu_stemSought : List am_e := [
  (.iconst 0, 1, 0, 0, 0, 0, 0), (.istore_n 2, 2, 2, 0, 0, 0, 0), (.iload_n 2, 3, 2, 0, 0, 0, 0), (.aload_n 0, 4, 0, 0, 0, 0, 0), (.getfield 12, 7, 4, 1, 0, 0, 0), am_dum, am_dum, (.invokevirtual 104, 10, 158, 0, 0, 0, 0), am_dum, 
  am_dum, (.if_icmp .ge 87, 13, 97, 0, 0, 0, 0), am_dum, am_dum, (.aload_n 0, 14, 0, 0, 0, 0, 0), (.getfield 12, 17, 4, 1, 0, 0, 0), am_dum, am_dum, (.iload_n 2, 18, 2, 0, 0, 0, 0), (.invokevirtual 107, 21, 160, 0, 1, 0, 0), 
  am_dum, am_dum, (.checkcast 72, 24, 9, 0, 0, 0, 0), am_dum, am_dum, (.astore_n 3, 25, 3, 0, 0, 0, 0), (.aload_n 3, 26, 3, 0, 0, 0, 0), (.getfield 111, 29, 9, 3, 0, 0, 0), am_dum, am_dum, (.aload_n 3, 30, 3, 0, 0, 0, 0), 
  (.getfield 114, 33, 9, 4, 0, 0, 0), am_dum, am_dum, (.iadd, 34, 0, 0, 0, 0, 0), (.aload_n 0, 35, 0, 0, 0, 0, 0), (.getfield 20, 38, 4, 2, 0, 0, 0), am_dum, am_dum, (.arraylength, 39, 0, 0, 0, 0, 0), 
  (.invokestatic 116, 42, 0, 8, 2, 0, 0), am_dum, am_dum, (.istore 4, 44, 4, 0, 0, 0, 0), am_dum, (.aload_n 3, 45, 3, 0, 0, 0, 0), (.getfield 111, 48, 9, 3, 0, 0, 0), am_dum, am_dum, (.istore 5, 50, 5, 0, 0, 0, 0), am_dum, 
  (.iload 5, 52, 5, 0, 0, 0, 0), am_dum, (.iload 4, 54, 4, 0, 0, 0, 0), am_dum, (.if_icmp .ge 37, 57, 91, 0, 0, 0, 0), am_dum, am_dum, (.aload_n 3, 58, 3, 0, 0, 0, 0), (.getfield 122, 61, 9, 0, 0, 0, 0), am_dum, am_dum, 
  (.getstatic 74, 64, 2, 0, 0, 0, 0), am_dum, am_dum, (.if_acmp .eq 27, 67, 91, 0, 0, 0, 0), am_dum, am_dum, (.aload_n 0, 68, 0, 0, 0, 0, 0), (.getfield 20, 71, 4, 2, 0, 0, 0), am_dum, am_dum, (.iload 5, 73, 5, 0, 0, 0, 0), am_dum, 
  (.aload_n 1, 74, 1, 0, 0, 0, 0), (.aload_n 0, 75, 0, 0, 0, 0, 0), (.getfield 20, 78, 4, 2, 0, 0, 0), am_dum, am_dum, (.iload 5, 80, 5, 0, 0, 0, 0), am_dum, (.laload, 81, 0, 0, 0, 0, 0), (.invokevirtual 125, 84, 15, 0, 1, 0, 0), 
  am_dum, am_dum, (.lastore, 85, 0, 0, 0, 0, 0), (.iinc 5 1, 88, 5, 0, 0, 1, 0), am_dum, am_dum, (.goto (-38), 91, 50, 0, 0, 0, 0), am_dum, am_dum, (.iinc 2 1, 94, 2, 0, 0, 1, 0), am_dum, am_dum, (.goto (-92), 97, 2, 0, 0, 0, 0), 
  am_dum, am_dum, (.return_, 98, 0, 0, 0, 0, 0)]
def k_Qu_soughtBy : List am_e := [
  (.aload_n 1, 1, 1, 0, 0, 0, 0), (.getfield 111, 4, 9, 3, 0, 0, 0), am_dum, am_dum, (.ifCond .lt 27, 7, 31, 0, 0, 0, 0), am_dum, am_dum, (.aload_n 1, 8, 1, 0, 0, 0, 0), (.getfield 111, 11, 9, 3, 0, 0, 0), am_dum, am_dum, 
  (.aload_n 0, 12, 0, 0, 0, 0, 0), (.getfield 20, 15, 4, 2, 0, 0, 0), am_dum, am_dum, (.arraylength, 16, 0, 0, 0, 0, 0), (.if_icmp .ge 15, 19, 31, 0, 0, 0, 0), am_dum, am_dum, (.aload_n 0, 20, 0, 0, 0, 0, 0), 
  (.getfield 20, 23, 4, 2, 0, 0, 0), am_dum, am_dum, (.aload_n 1, 24, 1, 0, 0, 0, 0), (.getfield 111, 27, 9, 3, 0, 0, 0), am_dum, am_dum, (.laload, 28, 0, 0, 0, 0, 0), (.goto 4, 31, 32, 0, 0, 0, 0), am_dum, am_dum, 
  (.lconst 0, 32, 0, 0, 0, 0, 0), (.lreturn, 33, 0, 0, 0, 0, 0)]
def k_Qu_weigh : List am_e := [
  (.aload_n 0, 1, 0, 0, 0, 0, 0), (.iconst 0, 2, 0, 0, 0, 0, 0), (.putfield 131, 5, 4, 6, 0, 0, 0), am_dum, am_dum, (.iconst 0, 6, 0, 0, 0, 0, 0), (.istore 4, 8, 4, 0, 0, 0, 0), am_dum, (.iload 4, 10, 4, 0, 0, 0, 0), am_dum, 
  (.aload_n 0, 11, 0, 0, 0, 0, 0), (.getfield 12, 14, 4, 1, 0, 0, 0), am_dum, am_dum, (.invokevirtual 104, 17, 158, 0, 0, 0, 0), am_dum, am_dum, (.if_icmp .ge 146, 20, 163, 0, 0, 0, 0), am_dum, am_dum, 
  (.aload_n 0, 21, 0, 0, 0, 0, 0), (.getfield 12, 24, 4, 1, 0, 0, 0), am_dum, am_dum, (.iload 4, 26, 4, 0, 0, 0, 0), am_dum, (.invokevirtual 107, 29, 160, 0, 1, 0, 0), am_dum, am_dum, (.checkcast 72, 32, 9, 0, 0, 0, 0), am_dum, 
  am_dum, (.astore 5, 34, 5, 0, 0, 0, 0), am_dum, (.aload_n 0, 35, 0, 0, 0, 0, 0), (.aload 5, 37, 5, 0, 0, 0, 0), am_dum, (.invokevirtual 134, 40, 35, 0, 1, 0, 0), am_dum, am_dum, (.lstore 6, 42, 6, 0, 0, 0, 0), am_dum, 
  (.aload 5, 44, 5, 0, 0, 0, 0), am_dum, (.getfield 122, 47, 9, 0, 0, 0, 0), am_dum, am_dum, (.getstatic 80, 50, 1, 0, 0, 0, 0), am_dum, am_dum, (.if_acmp .ne 22, 53, 72, 0, 0, 0, 0), am_dum, am_dum, (.aload 5, 55, 5, 0, 0, 0, 0), 
  am_dum, (.getfield 138, 58, 9, 1, 0, 0, 0), am_dum, am_dum, (.ifCond .ne 14, 61, 72, 0, 0, 0, 0), am_dum, am_dum, (.lload 6, 63, 6, 0, 0, 0, 0), am_dum, (.lconst 0, 64, 0, 0, 0, 0, 0), (.lcmp, 65, 0, 0, 0, 0, 0), 
  (.ifCond .eq 7, 68, 72, 0, 0, 0, 0), am_dum, am_dum, (.iconst 1, 69, 0, 0, 0, 1, 0), (.goto 4, 72, 73, 0, 0, 0, 0), am_dum, am_dum, (.iconst 0, 73, 0, 0, 0, 0, 0), (.istore 8, 75, 8, 0, 0, 0, 0), am_dum, 
  (.iload 8, 77, 8, 0, 0, 0, 0), am_dum, (.ifCond .eq 80, 80, 157, 0, 0, 0, 0), am_dum, am_dum, (.aload_n 0, 81, 0, 0, 0, 0, 0), (.lload 6, 83, 6, 0, 0, 0, 0), am_dum, (.invokevirtual 142, 86, 37, 0, 1, 0, 0), am_dum, am_dum, 
  (.ifCond .ne 71, 89, 157, 0, 0, 0, 0), am_dum, am_dum, (.aload_n 0, 90, 0, 0, 0, 0, 0), (.getfield 131, 93, 4, 6, 0, 0, 0), am_dum, am_dum, (.aload_n 0, 94, 0, 0, 0, 0, 0), (.getfield 24, 97, 4, 4, 0, 0, 0), am_dum, am_dum, 
  (.arraylength, 98, 0, 0, 0, 0, 0), (.if_icmp .ge 59, 101, 157, 0, 0, 0, 0), am_dum, am_dum, (.aload_n 1, 102, 1, 0, 0, 0, 0), (.lload 6, 104, 6, 0, 0, 0, 0), am_dum, (.iload_n 2, 105, 2, 0, 0, 0, 0), 
  (.iload_n 3, 106, 3, 0, 0, 0, 0), (.invokevirtual 146, 109, 57, 0, 3, 0, 0), am_dum, am_dum, (.istore 9, 111, 9, 0, 0, 0, 0), am_dum, (.aload_n 0, 112, 0, 0, 0, 0, 0), (.getfield 24, 115, 4, 4, 0, 0, 0), am_dum, am_dum, 
  (.aload_n 0, 116, 0, 0, 0, 0, 0), (.getfield 131, 119, 4, 6, 0, 0, 0), am_dum, am_dum, (.lload 6, 121, 6, 0, 0, 0, 0), am_dum, (.lastore, 122, 0, 0, 0, 0, 0), (.aload_n 0, 123, 0, 0, 0, 0, 0), (.getfield 27, 126, 4, 5, 0, 0, 0), 
  am_dum, am_dum, (.aload_n 0, 127, 0, 0, 0, 0, 0), (.getfield 131, 130, 4, 6, 0, 0, 0), am_dum, am_dum, (.iload 9, 132, 9, 0, 0, 0, 0), am_dum, (.ifCond .le 13, 135, 145, 0, 0, 0, 0), am_dum, am_dum, 
  (.ldc2_w 152, 138, 0, 0, 0, 0, 5342931457063200), am_dum, am_dum, (.iload 9, 140, 9, 0, 0, 0, 0), am_dum, (.i2l, 141, 0, 0, 0, 0, 0), (.ldiv, 142, 0, 0, 0, 0, 0), (.goto 4, 145, 146, 0, 0, 0, 0), am_dum, am_dum, 
  (.lconst 0, 146, 0, 0, 0, 0, 0), (.lastore, 147, 0, 0, 0, 0, 0), (.aload_n 0, 148, 0, 0, 0, 0, 0), (.dup, 149, 0, 0, 0, 0, 0), (.getfield 131, 152, 4, 6, 0, 0, 0), am_dum, am_dum, (.iconst 1, 153, 0, 0, 0, 1, 0), 
  (.iadd, 154, 0, 0, 0, 0, 0), (.putfield 131, 157, 4, 6, 0, 0, 0), am_dum, am_dum, (.iinc 4 1, 160, 4, 0, 0, 1, 0), am_dum, am_dum, (.goto (-152), 163, 8, 0, 0, 0, 0), am_dum, am_dum, (.return_, 164, 0, 0, 0, 0, 0)]
def k_Qu_hasTerm : List am_e := [
  (.iconst 0, 1, 0, 0, 0, 0, 0), (.istore_n 3, 2, 3, 0, 0, 0, 0), (.iload_n 3, 3, 3, 0, 0, 0, 0), (.aload_n 0, 4, 0, 0, 0, 0, 0), (.getfield 131, 7, 4, 6, 0, 0, 0), am_dum, am_dum, (.if_icmp .ge 31, 10, 38, 0, 0, 0, 0), am_dum, 
  am_dum, (.iload_n 3, 11, 3, 0, 0, 0, 0), (.aload_n 0, 12, 0, 0, 0, 0, 0), (.getfield 24, 15, 4, 4, 0, 0, 0), am_dum, am_dum, (.arraylength, 16, 0, 0, 0, 0, 0), (.if_icmp .ge 22, 19, 38, 0, 0, 0, 0), am_dum, am_dum, 
  (.aload_n 0, 20, 0, 0, 0, 0, 0), (.getfield 24, 23, 4, 4, 0, 0, 0), am_dum, am_dum, (.iload_n 3, 24, 3, 0, 0, 0, 0), (.laload, 25, 0, 0, 0, 0, 0), (.lload_n 1, 26, 1, 0, 0, 0, 0), (.lcmp, 27, 0, 0, 0, 0, 0), 
  (.ifCond .ne 5, 30, 32, 0, 0, 0, 0), am_dum, am_dum, (.iconst 1, 31, 0, 0, 0, 1, 0), (.ireturn, 32, 1, 0, 0, 0, 0), (.iinc 3 1, 35, 3, 0, 0, 1, 0), am_dum, am_dum, (.goto (-33), 38, 2, 0, 0, 0, 0), am_dum, am_dum, 
  (.iconst 0, 39, 0, 0, 0, 0, 0), (.ireturn, 40, 1, 0, 0, 0, 0)]
def k_Qu_weightOf : List am_e := [
  (.lconst 0, 1, 0, 0, 0, 0, 0), (.lstore_n 3, 2, 3, 0, 0, 0, 0), (.iconst 0, 3, 0, 0, 0, 0, 0), (.istore 5, 5, 5, 0, 0, 0, 0), am_dum, (.iload 5, 7, 5, 0, 0, 0, 0), am_dum, (.aload_n 0, 8, 0, 0, 0, 0, 0), 
  (.getfield 131, 11, 4, 6, 0, 0, 0), am_dum, am_dum, (.if_icmp .ge 43, 14, 54, 0, 0, 0, 0), am_dum, am_dum, (.iload 5, 16, 5, 0, 0, 0, 0), am_dum, (.aload_n 0, 17, 0, 0, 0, 0, 0), (.getfield 24, 20, 4, 4, 0, 0, 0), am_dum, am_dum, 
  (.arraylength, 21, 0, 0, 0, 0, 0), (.if_icmp .ge 33, 24, 54, 0, 0, 0, 0), am_dum, am_dum, (.lload_n 3, 25, 3, 0, 0, 0, 0), (.aload_n 1, 26, 1, 0, 0, 0, 0), (.aload_n 0, 27, 0, 0, 0, 0, 0), (.getfield 24, 30, 4, 4, 0, 0, 0), 
  am_dum, am_dum, (.iload 5, 32, 5, 0, 0, 0, 0), am_dum, (.laload, 33, 0, 0, 0, 0, 0), (.iload_n 2, 34, 2, 0, 0, 0, 0), (.invokevirtual 154, 37, 56, 0, 2, 0, 0), am_dum, am_dum, (.i2l, 38, 0, 0, 0, 0, 0), 
  (.aload_n 0, 39, 0, 0, 0, 0, 0), (.getfield 27, 42, 4, 5, 0, 0, 0), am_dum, am_dum, (.iload 5, 44, 5, 0, 0, 0, 0), am_dum, (.laload, 45, 0, 0, 0, 0, 0), (.lmul, 46, 0, 0, 0, 0, 0), (.ladd, 47, 0, 0, 0, 0, 0), 
  (.lstore_n 3, 48, 3, 0, 0, 0, 0), (.iinc 5 1, 51, 5, 0, 0, 1, 0), am_dum, am_dum, (.goto (-46), 54, 5, 0, 0, 0, 0), am_dum, am_dum, (.lload_n 3, 55, 3, 0, 0, 0, 0), (.lreturn, 56, 0, 0, 0, 0, 0)]
def k_Qu_isAnsweredBy : List am_e := [
  (.iconst 0, 1, 0, 0, 0, 0, 0), (.istore_n 3, 2, 3, 0, 0, 0, 0), (.iconst (-1), 3, 0, 0, 0, -1, 0), (.istore 4, 5, 4, 0, 0, 0, 0), am_dum, (.iconst 0, 6, 0, 0, 0, 0, 0), (.istore 5, 8, 5, 0, 0, 0, 0), am_dum, 
  (.iload 5, 10, 5, 0, 0, 0, 0), am_dum, (.aload_n 0, 11, 0, 0, 0, 0, 0), (.getfield 12, 14, 4, 1, 0, 0, 0), am_dum, am_dum, (.invokevirtual 104, 17, 158, 0, 0, 0, 0), am_dum, am_dum, (.if_icmp .ge 70, 20, 87, 0, 0, 0, 0), am_dum, 
  am_dum, (.aload_n 0, 21, 0, 0, 0, 0, 0), (.getfield 12, 24, 4, 1, 0, 0, 0), am_dum, am_dum, (.iload 5, 26, 5, 0, 0, 0, 0), am_dum, (.invokevirtual 107, 29, 160, 0, 1, 0, 0), am_dum, am_dum, (.checkcast 72, 32, 9, 0, 0, 0, 0), 
  am_dum, am_dum, (.astore 6, 34, 6, 0, 0, 0, 0), am_dum, (.aload 6, 36, 6, 0, 0, 0, 0), am_dum, (.getfield 158, 39, 9, 2, 0, 0, 0), am_dum, am_dum, (.iload 4, 41, 4, 0, 0, 0, 0), am_dum, (.if_icmp .eq 18, 44, 59, 0, 0, 0, 0), 
  am_dum, am_dum, (.iload_n 3, 45, 3, 0, 0, 0, 0), (.ifCond .eq 5, 48, 50, 0, 0, 0, 0), am_dum, am_dum, (.iconst 1, 49, 0, 0, 0, 1, 0), (.ireturn, 50, 1, 0, 0, 0, 0), (.iconst 1, 51, 0, 0, 0, 1, 0), 
  (.istore_n 3, 52, 3, 0, 0, 0, 0), (.aload 6, 54, 6, 0, 0, 0, 0), am_dum, (.getfield 158, 57, 9, 2, 0, 0, 0), am_dum, am_dum, (.istore 4, 59, 4, 0, 0, 0, 0), am_dum, (.iload_n 3, 60, 3, 0, 0, 0, 0), 
  (.ifCond .eq 21, 63, 81, 0, 0, 0, 0), am_dum, am_dum, (.aload_n 0, 64, 0, 0, 0, 0, 0), (.aload 6, 66, 6, 0, 0, 0, 0), am_dum, (.aload_n 1, 67, 1, 0, 0, 0, 0), (.iload_n 2, 68, 2, 0, 0, 0, 0), 
  (.invokevirtual 159, 71, 40, 0, 3, 0, 0), am_dum, am_dum, (.aload 6, 73, 6, 0, 0, 0, 0), am_dum, (.getfield 138, 76, 9, 1, 0, 0, 0), am_dum, am_dum, (.if_icmp .ne 5, 79, 81, 0, 0, 0, 0), am_dum, am_dum, 
  (.iconst 0, 80, 0, 0, 0, 0, 0), (.istore_n 3, 81, 3, 0, 0, 0, 0), (.iinc 5 1, 84, 5, 0, 0, 1, 0), am_dum, am_dum, (.goto (-76), 87, 8, 0, 0, 0, 0), am_dum, am_dum, (.iload_n 3, 88, 3, 0, 0, 0, 0), (.ireturn, 89, 1, 0, 0, 0, 0)]
def k_Qu_isPartAnsweredBy : List am_e := [
  (.aload_n 1, 1, 1, 0, 0, 0, 0), (.getfield 122, 4, 9, 0, 0, 0, 0), am_dum, am_dum, (.getstatic 94, 7, 3, 0, 0, 0, 0), am_dum, am_dum, (.if_acmp .ne 21, 10, 28, 0, 0, 0, 0), am_dum, am_dum, (.aload_n 2, 11, 2, 0, 0, 0, 0), 
  (.aload_n 0, 12, 0, 0, 0, 0, 0), (.getfield 20, 15, 4, 2, 0, 0, 0), am_dum, am_dum, (.aload_n 1, 16, 1, 0, 0, 0, 0), (.getfield 111, 19, 9, 3, 0, 0, 0), am_dum, am_dum, (.aload_n 1, 20, 1, 0, 0, 0, 0), 
  (.getfield 114, 23, 9, 4, 0, 0, 0), am_dum, am_dum, (.iload_n 3, 24, 3, 0, 0, 0, 0), (.invokevirtual 163, 27, 59, 0, 4, 0, 0), am_dum, am_dum, (.ireturn, 28, 1, 0, 0, 0, 0), (.aload_n 1, 29, 1, 0, 0, 0, 0), 
  (.getfield 122, 32, 9, 0, 0, 0, 0), am_dum, am_dum, (.getstatic 74, 35, 2, 0, 0, 0, 0), am_dum, am_dum, (.if_acmp .ne 14, 38, 49, 0, 0, 0, 0), am_dum, am_dum, (.aload_n 2, 39, 2, 0, 0, 0, 0), (.aload_n 0, 40, 0, 0, 0, 0, 0), 
  (.aload_n 1, 41, 1, 0, 0, 0, 0), (.invokevirtual 134, 44, 35, 0, 1, 0, 0), am_dum, am_dum, (.iload_n 3, 45, 3, 0, 0, 0, 0), (.invokevirtual 167, 48, 58, 0, 2, 0, 0), am_dum, am_dum, (.ireturn, 49, 1, 0, 0, 0, 0), 
  (.aload_n 2, 50, 2, 0, 0, 0, 0), (.aload_n 0, 51, 0, 0, 0, 0, 0), (.aload_n 1, 52, 1, 0, 0, 0, 0), (.invokevirtual 134, 55, 35, 0, 1, 0, 0), am_dum, am_dum, (.iload_n 3, 56, 3, 0, 0, 0, 0), 
  (.invokevirtual 154, 59, 56, 0, 2, 0, 0), am_dum, am_dum, (.ifCond .le 7, 62, 66, 0, 0, 0, 0), am_dum, am_dum, (.iconst 1, 63, 0, 0, 0, 1, 0), (.goto 4, 66, 67, 0, 0, 0, 0), am_dum, am_dum, (.iconst 0, 67, 0, 0, 0, 0, 0), 
  (.ireturn, 68, 1, 0, 0, 0, 0)]
def k_Sh_init : List am_e := [
  (.aload_n 0, 1, 0, 0, 0, 0, 0), (.invokespecial 3, 4, 0, 4, 0, 0, 0), am_dum, am_dum, (.aload_n 0, 5, 0, 0, 0, 0, 0), (.bipush 40, 7, 0, 0, 0, 40, 0), am_dum, (.newarray .int, 9, 0, 0, 0, 0, 0), am_dum, 
  (.putfield 11, 12, 3, 0, 0, 0, 0), am_dum, am_dum, (.aload_n 0, 13, 0, 0, 0, 0, 0), (.bipush 40, 15, 0, 0, 0, 40, 0), am_dum, (.newarray .int, 17, 0, 0, 0, 0, 0), am_dum, (.putfield 15, 20, 3, 1, 0, 0, 0), am_dum, am_dum, 
  (.aload_n 0, 21, 0, 0, 0, 0, 0), (.bipush 40, 23, 0, 0, 0, 40, 0), am_dum, (.newarray .boolean, 25, 2, 0, 0, 0, 0), am_dum, (.putfield 18, 28, 3, 2, 0, 0, 0), am_dum, am_dum, (.aload_n 0, 29, 0, 0, 0, 0, 0), 
  (.bipush 41, 31, 0, 0, 0, 41, 0), am_dum, (.newarray .int, 33, 0, 0, 0, 0, 0), am_dum, (.putfield 22, 36, 3, 3, 0, 0, 0), am_dum, am_dum, (.aload_n 0, 37, 0, 0, 0, 0, 0), (.sipush 400, 40, 0, 0, 0, 400, 0), am_dum, am_dum, 
  (.newarray .long, 42, 3, 0, 0, 0, 0), am_dum, (.putfield 25, 45, 3, 5, 0, 0, 0), am_dum, am_dum, (.aload_n 0, 46, 0, 0, 0, 0, 0), (.sipush 400, 49, 0, 0, 0, 400, 0), am_dum, am_dum, (.newarray .long, 51, 3, 0, 0, 0, 0), am_dum, 
  (.putfield 29, 54, 3, 6, 0, 0, 0), am_dum, am_dum, (.aload_n 0, 55, 0, 0, 0, 0, 0), (.sipush 400, 58, 0, 0, 0, 400, 0), am_dum, am_dum, (.newarray .int, 60, 0, 0, 0, 0, 0), am_dum, (.putfield 32, 63, 3, 7, 0, 0, 0), am_dum, 
  am_dum, (.aload_n 0, 64, 0, 0, 0, 0, 0), (.sipush 400, 67, 0, 0, 0, 400, 0), am_dum, am_dum, (.newarray .int, 69, 0, 0, 0, 0, 0), am_dum, (.putfield 35, 72, 3, 8, 0, 0, 0), am_dum, am_dum, (.return_, 73, 0, 0, 0, 0, 0)]
def k_Sh_put : List am_e := [
  (.aload_n 0, 1, 0, 0, 0, 0, 0), (.getfield 38, 4, 3, 4, 0, 0, 0), am_dum, am_dum, (.bipush 40, 6, 0, 0, 0, 40, 0), am_dum, (.if_icmp .ge 18, 9, 24, 0, 0, 0, 0), am_dum, am_dum, (.aload_n 0, 10, 0, 0, 0, 0, 0), 
  (.getfield 42, 13, 3, 9, 0, 0, 0), am_dum, am_dum, (.aload_n 3, 14, 3, 0, 0, 0, 0), (.invokevirtual 45, 17, 71, 0, 0, 0, 0), am_dum, am_dum, (.iadd, 18, 0, 0, 0, 0, 0), (.sipush 400, 21, 0, 0, 0, 400, 0), am_dum, am_dum, 
  (.if_icmp .le 6, 24, 27, 0, 0, 0, 0), am_dum, am_dum, (.bipush (-3), 26, 0, 0, 0, -3, 0), am_dum, (.ireturn, 27, 0, 0, 0, 0, 0), (.aload_n 0, 28, 0, 0, 0, 0, 0), (.getfield 38, 31, 3, 4, 0, 0, 0), am_dum, am_dum, 
  (.istore 4, 33, 4, 0, 0, 0, 0), am_dum, (.aload_n 0, 34, 0, 0, 0, 0, 0), (.getfield 11, 37, 3, 0, 0, 0, 0), am_dum, am_dum, (.iload 4, 39, 4, 0, 0, 0, 0), am_dum, (.aload_n 1, 40, 1, 0, 0, 0, 0), 
  (.invokevirtual 50, 43, 8, 0, 0, 0, 0), am_dum, am_dum, (.iastore, 44, 0, 0, 0, 0, 0), (.aload_n 0, 45, 0, 0, 0, 0, 0), (.getfield 15, 48, 3, 1, 0, 0, 0), am_dum, am_dum, (.iload 4, 50, 4, 0, 0, 0, 0), am_dum, 
  (.iload_n 2, 51, 2, 0, 0, 0, 0), (.iastore, 52, 0, 0, 0, 0, 0), (.aload_n 0, 53, 0, 0, 0, 0, 0), (.getfield 22, 56, 3, 3, 0, 0, 0), am_dum, am_dum, (.iload 4, 58, 4, 0, 0, 0, 0), am_dum, (.aload_n 0, 59, 0, 0, 0, 0, 0), 
  (.getfield 42, 62, 3, 9, 0, 0, 0), am_dum, am_dum, (.iastore, 63, 0, 0, 0, 0, 0), (.iconst 0, 64, 0, 0, 0, 0, 0), (.istore 5, 66, 5, 0, 0, 0, 0), am_dum, (.iload 5, 68, 5, 0, 0, 0, 0), am_dum, (.aload_n 3, 69, 3, 0, 0, 0, 0), 
  (.invokevirtual 45, 72, 71, 0, 0, 0, 0), am_dum, am_dum, (.if_icmp .ge 93, 75, 165, 0, 0, 0, 0), am_dum, am_dum, (.aload_n 0, 76, 0, 0, 0, 0, 0), (.getfield 42, 79, 3, 9, 0, 0, 0), am_dum, am_dum, 
  (.sipush 400, 82, 0, 0, 0, 400, 0), am_dum, am_dum, (.if_icmp .ge 83, 85, 165, 0, 0, 0, 0), am_dum, am_dum, (.aload_n 0, 86, 0, 0, 0, 0, 0), (.getfield 25, 89, 3, 5, 0, 0, 0), am_dum, am_dum, (.aload_n 0, 90, 0, 0, 0, 0, 0), 
  (.getfield 42, 93, 3, 9, 0, 0, 0), am_dum, am_dum, (.aload_n 3, 94, 3, 0, 0, 0, 0), (.iload 5, 96, 5, 0, 0, 0, 0), am_dum, (.invokevirtual 55, 99, 73, 0, 1, 0, 0), am_dum, am_dum, (.lastore, 100, 0, 0, 0, 0, 0), 
  (.aload_n 0, 101, 0, 0, 0, 0, 0), (.getfield 29, 104, 3, 6, 0, 0, 0), am_dum, am_dum, (.aload_n 0, 105, 0, 0, 0, 0, 0), (.getfield 42, 108, 3, 9, 0, 0, 0), am_dum, am_dum, (.aload_n 1, 109, 1, 0, 0, 0, 0), 
  (.aload_n 3, 110, 3, 0, 0, 0, 0), (.iload 5, 112, 5, 0, 0, 0, 0), am_dum, (.invokevirtual 55, 115, 73, 0, 1, 0, 0), am_dum, am_dum, (.invokevirtual 59, 118, 15, 0, 1, 0, 0), am_dum, am_dum, (.lastore, 119, 0, 0, 0, 0, 0), 
  (.aload_n 0, 120, 0, 0, 0, 0, 0), (.getfield 32, 123, 3, 7, 0, 0, 0), am_dum, am_dum, (.aload_n 0, 124, 0, 0, 0, 0, 0), (.getfield 42, 127, 3, 9, 0, 0, 0), am_dum, am_dum, (.aload_n 3, 128, 3, 0, 0, 0, 0), 
  (.iload 5, 130, 5, 0, 0, 0, 0), am_dum, (.invokevirtual 63, 133, 74, 0, 1, 0, 0), am_dum, am_dum, (.iastore, 134, 0, 0, 0, 0, 0), (.aload_n 0, 135, 0, 0, 0, 0, 0), (.getfield 35, 138, 3, 8, 0, 0, 0), am_dum, am_dum, 
  (.aload_n 0, 139, 0, 0, 0, 0, 0), (.getfield 42, 142, 3, 9, 0, 0, 0), am_dum, am_dum, (.aload_n 3, 143, 3, 0, 0, 0, 0), (.iload 5, 145, 5, 0, 0, 0, 0), am_dum, (.invokevirtual 67, 148, 75, 0, 1, 0, 0), am_dum, am_dum, 
  (.iastore, 149, 0, 0, 0, 0, 0), (.aload_n 0, 150, 0, 0, 0, 0, 0), (.dup, 151, 0, 0, 0, 0, 0), (.getfield 42, 154, 3, 9, 0, 0, 0), am_dum, am_dum, (.iconst 1, 155, 0, 0, 0, 1, 0), (.iadd, 156, 0, 0, 0, 0, 0), 
  (.putfield 42, 159, 3, 9, 0, 0, 0), am_dum, am_dum, (.iinc 5 1, 162, 5, 0, 0, 1, 0), am_dum, am_dum, (.goto (-96), 165, 66, 0, 0, 0, 0), am_dum, am_dum, (.aload_n 0, 166, 0, 0, 0, 0, 0), (.dup, 167, 0, 0, 0, 0, 0), 
  (.getfield 38, 170, 3, 4, 0, 0, 0), am_dum, am_dum, (.iconst 1, 171, 0, 0, 0, 1, 0), (.iadd, 172, 0, 0, 0, 0, 0), (.putfield 38, 175, 3, 4, 0, 0, 0), am_dum, am_dum, (.aload_n 0, 176, 0, 0, 0, 0, 0), 
  (.getfield 22, 179, 3, 3, 0, 0, 0), am_dum, am_dum, (.aload_n 0, 180, 0, 0, 0, 0, 0), (.getfield 38, 183, 3, 4, 0, 0, 0), am_dum, am_dum, (.aload_n 0, 184, 0, 0, 0, 0, 0), (.getfield 42, 187, 3, 9, 0, 0, 0), am_dum, am_dum, 
  (.iastore, 188, 0, 0, 0, 0, 0), (.iload 4, 190, 4, 0, 0, 0, 0), am_dum, (.ireturn, 191, 0, 0, 0, 0, 0)]
def k_Sh_takeAway : List am_e := [
  (.aload_n 0, 1, 0, 0, 0, 0, 0), (.iload_n 1, 2, 1, 0, 0, 0, 0), (.invokevirtual 70, 5, 44, 0, 1, 0, 0), am_dum, am_dum, (.ifCond .ne 5, 8, 10, 0, 0, 0, 0), am_dum, am_dum, (.iconst 0, 9, 0, 0, 0, 0, 0), 
  (.ireturn, 10, 1, 0, 0, 0, 0), (.aload_n 0, 11, 0, 0, 0, 0, 0), (.getfield 18, 14, 3, 2, 0, 0, 0), am_dum, am_dum, (.iload_n 1, 15, 1, 0, 0, 0, 0), (.iconst 1, 16, 0, 0, 0, 1, 0), (.bastore, 17, 0, 0, 0, 0, 0), 
  (.iconst 1, 18, 0, 0, 0, 1, 0), (.ireturn, 19, 1, 0, 0, 0, 0)]
def k_Sh_has : List am_e := [
  (.iload_n 1, 1, 1, 0, 0, 0, 0), (.ifCond .lt 30, 4, 31, 0, 0, 0, 0), am_dum, am_dum, (.iload_n 1, 5, 1, 0, 0, 0, 0), (.aload_n 0, 6, 0, 0, 0, 0, 0), (.getfield 38, 9, 3, 4, 0, 0, 0), am_dum, am_dum, 
  (.if_icmp .ge 22, 12, 31, 0, 0, 0, 0), am_dum, am_dum, (.iload_n 1, 13, 1, 0, 0, 0, 0), (.bipush 40, 15, 0, 0, 0, 40, 0), am_dum, (.if_icmp .ge 16, 18, 31, 0, 0, 0, 0), am_dum, am_dum, (.aload_n 0, 19, 0, 0, 0, 0, 0), 
  (.getfield 18, 22, 3, 2, 0, 0, 0), am_dum, am_dum, (.iload_n 1, 23, 1, 0, 0, 0, 0), (.baload, 24, 0, 0, 0, 0, 0), (.ifCond .ne 7, 27, 31, 0, 0, 0, 0), am_dum, am_dum, (.iconst 1, 28, 0, 0, 0, 1, 0), (.goto 4, 31, 32, 0, 0, 0, 0), 
  am_dum, am_dum, (.iconst 0, 32, 0, 0, 0, 0, 0), (.ireturn, 33, 1, 0, 0, 0, 0)]
def k_Sh_isIn : List am_e := [
  (.aload_n 0, 1, 0, 0, 0, 0, 0), (.iload_n 1, 2, 1, 0, 0, 0, 0), (.invokevirtual 70, 5, 44, 0, 1, 0, 0), am_dum, am_dum, (.ifCond .eq 32, 8, 37, 0, 0, 0, 0), am_dum, am_dum, (.aload_n 0, 9, 0, 0, 0, 0, 0), 
  (.getfield 11, 12, 3, 0, 0, 0, 0), am_dum, am_dum, (.iload_n 1, 13, 1, 0, 0, 0, 0), (.iaload, 14, 0, 0, 0, 0, 0), (.iload_n 2, 15, 2, 0, 0, 0, 0), (.if_icmp .ne 22, 18, 37, 0, 0, 0, 0), am_dum, am_dum, 
  (.iload_n 3, 19, 3, 0, 0, 0, 0), (.iconst (-1), 20, 0, 0, 0, -1, 0), (.if_icmp .eq 13, 23, 33, 0, 0, 0, 0), am_dum, am_dum, (.aload_n 0, 24, 0, 0, 0, 0, 0), (.getfield 15, 27, 3, 1, 0, 0, 0), am_dum, am_dum, 
  (.iload_n 1, 28, 1, 0, 0, 0, 0), (.iaload, 29, 0, 0, 0, 0, 0), (.iload_n 3, 30, 3, 0, 0, 0, 0), (.if_icmp .ne 7, 33, 37, 0, 0, 0, 0), am_dum, am_dum, (.iconst 1, 34, 0, 0, 0, 1, 0), (.goto 4, 37, 38, 0, 0, 0, 0), am_dum, am_dum, 
  (.iconst 0, 38, 0, 0, 0, 0, 0), (.ireturn, 39, 1, 0, 0, 0, 0)]
def k_Sh_firstOf : List am_e := [
  (.aload_n 0, 1, 0, 0, 0, 0, 0), (.iload_n 1, 2, 1, 0, 0, 0, 0), (.invokevirtual 70, 5, 44, 0, 1, 0, 0), am_dum, am_dum, (.ifCond .eq 12, 8, 17, 0, 0, 0, 0), am_dum, am_dum, (.aload_n 0, 9, 0, 0, 0, 0, 0), 
  (.getfield 22, 12, 3, 3, 0, 0, 0), am_dum, am_dum, (.iload_n 1, 13, 1, 0, 0, 0, 0), (.iaload, 14, 0, 0, 0, 0, 0), (.goto 4, 17, 18, 0, 0, 0, 0), am_dum, am_dum, (.iconst 0, 18, 0, 0, 0, 0, 0), (.ireturn, 19, 0, 0, 0, 0, 0)]
def k_Sh_endOf : List am_e := [
  (.aload_n 0, 1, 0, 0, 0, 0, 0), (.iload_n 1, 2, 1, 0, 0, 0, 0), (.invokevirtual 70, 5, 44, 0, 1, 0, 0), am_dum, am_dum, (.ifCond .eq 20, 8, 25, 0, 0, 0, 0), am_dum, am_dum, (.aload_n 0, 9, 0, 0, 0, 0, 0), 
  (.getfield 22, 12, 3, 3, 0, 0, 0), am_dum, am_dum, (.iload_n 1, 13, 1, 0, 0, 0, 0), (.iconst 1, 14, 0, 0, 0, 1, 0), (.iadd, 15, 0, 0, 0, 0, 0), (.iaload, 16, 0, 0, 0, 0, 0), (.sipush 400, 19, 0, 0, 0, 400, 0), am_dum, am_dum, 
  (.invokestatic 74, 22, 0, 8, 2, 0, 0), am_dum, am_dum, (.goto 4, 25, 26, 0, 0, 0, 0), am_dum, am_dum, (.iconst 0, 26, 0, 0, 0, 0, 0), (.ireturn, 27, 0, 0, 0, 0, 0)]
def k_Sh_stemAgain : List am_e := [
  (.iconst 0, 1, 0, 0, 0, 0, 0), (.istore_n 2, 2, 2, 0, 0, 0, 0), (.iload_n 2, 3, 2, 0, 0, 0, 0), (.aload_n 0, 4, 0, 0, 0, 0, 0), (.getfield 38, 7, 3, 4, 0, 0, 0), am_dum, am_dum, (.if_icmp .ge 69, 10, 76, 0, 0, 0, 0), am_dum, 
  am_dum, (.aload_n 0, 11, 0, 0, 0, 0, 0), (.iload_n 2, 12, 2, 0, 0, 0, 0), (.aload_n 1, 13, 1, 0, 0, 0, 0), (.invokevirtual 50, 16, 8, 0, 0, 0, 0), am_dum, am_dum, (.iconst (-1), 17, 0, 0, 0, -1, 0), 
  (.invokevirtual 80, 20, 45, 0, 3, 0, 0), am_dum, am_dum, (.ifCond .eq 11, 23, 31, 0, 0, 0, 0), am_dum, am_dum, (.aload_n 0, 24, 0, 0, 0, 0, 0), (.iload_n 2, 25, 2, 0, 0, 0, 0), (.invokevirtual 84, 28, 47, 0, 1, 0, 0), am_dum, 
  am_dum, (.goto 4, 31, 32, 0, 0, 0, 0), am_dum, am_dum, (.iconst 0, 32, 0, 0, 0, 0, 0), (.istore_n 3, 33, 3, 0, 0, 0, 0), (.aload_n 0, 34, 0, 0, 0, 0, 0), (.iload_n 2, 35, 2, 0, 0, 0, 0), (.invokevirtual 87, 38, 46, 0, 1, 0, 0), 
  am_dum, am_dum, (.istore 4, 40, 4, 0, 0, 0, 0), am_dum, (.iload 4, 42, 4, 0, 0, 0, 0), am_dum, (.iload_n 3, 43, 3, 0, 0, 0, 0), (.if_icmp .ge 27, 46, 70, 0, 0, 0, 0), am_dum, am_dum, (.aload_n 0, 47, 0, 0, 0, 0, 0), 
  (.getfield 29, 50, 3, 6, 0, 0, 0), am_dum, am_dum, (.iload 4, 52, 4, 0, 0, 0, 0), am_dum, (.aload_n 1, 53, 1, 0, 0, 0, 0), (.aload_n 0, 54, 0, 0, 0, 0, 0), (.getfield 25, 57, 3, 5, 0, 0, 0), am_dum, am_dum, 
  (.iload 4, 59, 4, 0, 0, 0, 0), am_dum, (.laload, 60, 0, 0, 0, 0, 0), (.invokevirtual 59, 63, 15, 0, 1, 0, 0), am_dum, am_dum, (.lastore, 64, 0, 0, 0, 0, 0), (.iinc 4 1, 67, 4, 0, 0, 1, 0), am_dum, am_dum, 
  (.goto (-27), 70, 40, 0, 0, 0, 0), am_dum, am_dum, (.iinc 2 1, 73, 2, 0, 0, 1, 0), am_dum, am_dum, (.goto (-71), 76, 2, 0, 0, 0, 0), am_dum, am_dum, (.return_, 77, 0, 0, 0, 0, 0)]
def k_Sh_hasPlace : List am_e := [
  (.aload_n 0, 1, 0, 0, 0, 0, 0), (.iload_n 1, 2, 1, 0, 0, 0, 0), (.invokevirtual 70, 5, 44, 0, 1, 0, 0), am_dum, am_dum, (.ifCond .eq 26, 8, 31, 0, 0, 0, 0), am_dum, am_dum, (.iload_n 2, 9, 2, 0, 0, 0, 0), 
  (.ifCond .lt 22, 12, 31, 0, 0, 0, 0), am_dum, am_dum, (.iload_n 2, 13, 2, 0, 0, 0, 0), (.aload_n 0, 14, 0, 0, 0, 0, 0), (.iload_n 1, 15, 1, 0, 0, 0, 0), (.invokevirtual 84, 18, 47, 0, 1, 0, 0), am_dum, am_dum, 
  (.aload_n 0, 19, 0, 0, 0, 0, 0), (.iload_n 1, 20, 1, 0, 0, 0, 0), (.invokevirtual 87, 23, 46, 0, 1, 0, 0), am_dum, am_dum, (.isub, 24, 0, 0, 0, 0, 0), (.if_icmp .ge 7, 27, 31, 0, 0, 0, 0), am_dum, am_dum, 
  (.iconst 1, 28, 0, 0, 0, 1, 0), (.goto 4, 31, 32, 0, 0, 0, 0), am_dum, am_dum, (.iconst 0, 32, 0, 0, 0, 0, 0), (.ireturn, 33, 1, 0, 0, 0, 0)]
def k_Sh_startOf : List am_e := [
  (.aload_n 0, 1, 0, 0, 0, 0, 0), (.iload_n 1, 2, 1, 0, 0, 0, 0), (.iload_n 2, 3, 2, 0, 0, 0, 0), (.invokevirtual 90, 6, 49, 0, 2, 0, 0), am_dum, am_dum, (.ifCond .eq 18, 9, 24, 0, 0, 0, 0), am_dum, am_dum, 
  (.aload_n 0, 10, 0, 0, 0, 0, 0), (.getfield 32, 13, 3, 7, 0, 0, 0), am_dum, am_dum, (.aload_n 0, 14, 0, 0, 0, 0, 0), (.iload_n 1, 15, 1, 0, 0, 0, 0), (.invokevirtual 87, 18, 46, 0, 1, 0, 0), am_dum, am_dum, 
  (.iload_n 2, 19, 2, 0, 0, 0, 0), (.iadd, 20, 0, 0, 0, 0, 0), (.iaload, 21, 0, 0, 0, 0, 0), (.goto 4, 24, 25, 0, 0, 0, 0), am_dum, am_dum, (.iconst (-1), 25, 0, 0, 0, -1, 0), (.ireturn, 26, 0, 0, 0, 0, 0)]
def k_Sh_sizeOf : List am_e := [
  (.aload_n 0, 1, 0, 0, 0, 0, 0), (.iload_n 1, 2, 1, 0, 0, 0, 0), (.iload_n 2, 3, 2, 0, 0, 0, 0), (.invokevirtual 90, 6, 49, 0, 2, 0, 0), am_dum, am_dum, (.ifCond .eq 18, 9, 24, 0, 0, 0, 0), am_dum, am_dum, 
  (.aload_n 0, 10, 0, 0, 0, 0, 0), (.getfield 35, 13, 3, 8, 0, 0, 0), am_dum, am_dum, (.aload_n 0, 14, 0, 0, 0, 0, 0), (.iload_n 1, 15, 1, 0, 0, 0, 0), (.invokevirtual 87, 18, 46, 0, 1, 0, 0), am_dum, am_dum, 
  (.iload_n 2, 19, 2, 0, 0, 0, 0), (.iadd, 20, 0, 0, 0, 0, 0), (.iaload, 21, 0, 0, 0, 0, 0), (.goto 4, 24, 25, 0, 0, 0, 0), am_dum, am_dum, (.iconst (-1), 25, 0, 0, 0, -1, 0), (.ireturn, 26, 0, 0, 0, 0, 0)]
def k_Sh_countTexts : List am_e := [
  (.iconst 0, 1, 0, 0, 0, 0, 0), (.istore_n 1, 2, 1, 0, 0, 0, 0), (.iconst 0, 3, 0, 0, 0, 0, 0), (.istore_n 2, 4, 2, 0, 0, 0, 0), (.iload_n 2, 5, 2, 0, 0, 0, 0), (.aload_n 0, 6, 0, 0, 0, 0, 0), (.getfield 38, 9, 3, 4, 0, 0, 0), 
  am_dum, am_dum, (.if_icmp .ge 20, 12, 29, 0, 0, 0, 0), am_dum, am_dum, (.aload_n 0, 13, 0, 0, 0, 0, 0), (.iload_n 2, 14, 2, 0, 0, 0, 0), (.invokevirtual 70, 17, 44, 0, 1, 0, 0), am_dum, am_dum, 
  (.ifCond .eq 6, 20, 23, 0, 0, 0, 0), am_dum, am_dum, (.iinc 1 1, 23, 1, 0, 0, 1, 0), am_dum, am_dum, (.iinc 2 1, 26, 2, 0, 0, 1, 0), am_dum, am_dum, (.goto (-22), 29, 4, 0, 0, 0, 0), am_dum, am_dum, 
  (.iload_n 1, 30, 1, 0, 0, 0, 0), (.ireturn, 31, 0, 0, 0, 0, 0)]
def k_Sh_countStems : List am_e := [
  (.iconst 0, 1, 0, 0, 0, 0, 0), (.istore_n 2, 2, 2, 0, 0, 0, 0), (.iconst 0, 3, 0, 0, 0, 0, 0), (.istore_n 3, 4, 3, 0, 0, 0, 0), (.iload_n 3, 5, 3, 0, 0, 0, 0), (.aload_n 0, 6, 0, 0, 0, 0, 0), (.getfield 38, 9, 3, 4, 0, 0, 0), 
  am_dum, am_dum, (.if_icmp .ge 28, 12, 37, 0, 0, 0, 0), am_dum, am_dum, (.aload_n 0, 13, 0, 0, 0, 0, 0), (.iload_n 3, 14, 3, 0, 0, 0, 0), (.iload_n 1, 15, 1, 0, 0, 0, 0), (.iconst (-1), 16, 0, 0, 0, -1, 0), 
  (.invokevirtual 80, 19, 45, 0, 3, 0, 0), am_dum, am_dum, (.ifCond .eq 12, 22, 31, 0, 0, 0, 0), am_dum, am_dum, (.iload_n 2, 23, 2, 0, 0, 0, 0), (.aload_n 0, 24, 0, 0, 0, 0, 0), (.iload_n 3, 25, 3, 0, 0, 0, 0), 
  (.iload_n 1, 26, 1, 0, 0, 0, 0), (.invokevirtual 94, 29, 54, 0, 2, 0, 0), am_dum, am_dum, (.iadd, 30, 0, 0, 0, 0, 0), (.istore_n 2, 31, 2, 0, 0, 0, 0), (.iinc 3 1, 34, 3, 0, 0, 1, 0), am_dum, am_dum, 
  (.goto (-30), 37, 4, 0, 0, 0, 0), am_dum, am_dum, (.iload_n 2, 38, 2, 0, 0, 0, 0), (.ireturn, 39, 0, 0, 0, 0, 0)]
def k_Sh_countNewStems : List am_e := [
  (.iconst 0, 1, 0, 0, 0, 0, 0), (.istore_n 3, 2, 3, 0, 0, 0, 0), (.aload_n 0, 3, 0, 0, 0, 0, 0), (.iload_n 1, 4, 1, 0, 0, 0, 0), (.invokevirtual 84, 7, 47, 0, 1, 0, 0), am_dum, am_dum, (.istore 4, 9, 4, 0, 0, 0, 0), am_dum, 
  (.aload_n 0, 10, 0, 0, 0, 0, 0), (.iload_n 1, 11, 1, 0, 0, 0, 0), (.invokevirtual 87, 14, 46, 0, 1, 0, 0), am_dum, am_dum, (.istore 5, 16, 5, 0, 0, 0, 0), am_dum, (.iload 5, 18, 5, 0, 0, 0, 0), am_dum, 
  (.iload 4, 20, 4, 0, 0, 0, 0), am_dum, (.if_icmp .ge 35, 23, 55, 0, 0, 0, 0), am_dum, am_dum, (.aload_n 0, 24, 0, 0, 0, 0, 0), (.getfield 29, 27, 3, 6, 0, 0, 0), am_dum, am_dum, (.iload 5, 29, 5, 0, 0, 0, 0), am_dum, 
  (.laload, 30, 0, 0, 0, 0, 0), (.lconst 0, 31, 0, 0, 0, 0, 0), (.lcmp, 32, 0, 0, 0, 0, 0), (.ifCond .eq 17, 35, 49, 0, 0, 0, 0), am_dum, am_dum, (.aload_n 0, 36, 0, 0, 0, 0, 0), (.iload 5, 38, 5, 0, 0, 0, 0), am_dum, 
  (.iload_n 1, 39, 1, 0, 0, 0, 0), (.iload_n 2, 40, 2, 0, 0, 0, 0), (.invokevirtual 99, 43, 55, 0, 3, 0, 0), am_dum, am_dum, (.ifCond .ne 6, 46, 49, 0, 0, 0, 0), am_dum, am_dum, (.iinc 3 1, 49, 3, 0, 0, 1, 0), am_dum, am_dum, 
  (.iinc 5 1, 52, 5, 0, 0, 1, 0), am_dum, am_dum, (.goto (-36), 55, 16, 0, 0, 0, 0), am_dum, am_dum, (.iload_n 3, 56, 3, 0, 0, 0, 0), (.ireturn, 57, 0, 0, 0, 0, 0)]
def k_Sh_hasEarlier : List am_e := [
  (.iconst 0, 1, 0, 0, 0, 0, 0), (.istore 4, 3, 4, 0, 0, 0, 0), am_dum, (.iload 4, 5, 4, 0, 0, 0, 0), am_dum, (.iload_n 2, 6, 2, 0, 0, 0, 0), (.if_icmp .gt 72, 9, 78, 0, 0, 0, 0), am_dum, am_dum, (.aload_n 0, 10, 0, 0, 0, 0, 0), 
  (.iload 4, 12, 4, 0, 0, 0, 0), am_dum, (.iload_n 3, 13, 3, 0, 0, 0, 0), (.iconst (-1), 14, 0, 0, 0, -1, 0), (.invokevirtual 80, 17, 45, 0, 3, 0, 0), am_dum, am_dum, (.ifCond .eq 55, 20, 72, 0, 0, 0, 0), am_dum, am_dum, 
  (.iload_n 1, 21, 1, 0, 0, 0, 0), (.aload_n 0, 22, 0, 0, 0, 0, 0), (.iload 4, 24, 4, 0, 0, 0, 0), am_dum, (.invokevirtual 84, 27, 47, 0, 1, 0, 0), am_dum, am_dum, (.invokestatic 74, 30, 0, 8, 2, 0, 0), am_dum, am_dum, 
  (.istore 5, 32, 5, 0, 0, 0, 0), am_dum, (.aload_n 0, 33, 0, 0, 0, 0, 0), (.iload 4, 35, 4, 0, 0, 0, 0), am_dum, (.invokevirtual 87, 38, 46, 0, 1, 0, 0), am_dum, am_dum, (.istore 6, 40, 6, 0, 0, 0, 0), am_dum, 
  (.iload 6, 42, 6, 0, 0, 0, 0), am_dum, (.iload 5, 44, 5, 0, 0, 0, 0), am_dum, (.if_icmp .ge 28, 47, 72, 0, 0, 0, 0), am_dum, am_dum, (.aload_n 0, 48, 0, 0, 0, 0, 0), (.getfield 29, 51, 3, 6, 0, 0, 0), am_dum, am_dum, 
  (.iload 6, 53, 6, 0, 0, 0, 0), am_dum, (.laload, 54, 0, 0, 0, 0, 0), (.aload_n 0, 55, 0, 0, 0, 0, 0), (.getfield 29, 58, 3, 6, 0, 0, 0), am_dum, am_dum, (.iload_n 1, 59, 1, 0, 0, 0, 0), (.laload, 60, 0, 0, 0, 0, 0), 
  (.lcmp, 61, 0, 0, 0, 0, 0), (.ifCond .ne 5, 64, 66, 0, 0, 0, 0), am_dum, am_dum, (.iconst 1, 65, 0, 0, 0, 1, 0), (.ireturn, 66, 1, 0, 0, 0, 0), (.iinc 6 1, 69, 6, 0, 0, 1, 0), am_dum, am_dum, (.goto (-29), 72, 40, 0, 0, 0, 0), 
  am_dum, am_dum, (.iinc 4 1, 75, 4, 0, 0, 1, 0), am_dum, am_dum, (.goto (-72), 78, 3, 0, 0, 0, 0), am_dum, am_dum, (.iconst 0, 79, 0, 0, 0, 0, 0), (.ireturn, 80, 1, 0, 0, 0, 0)]
def k_Sh_timesOf : List am_e := [
  (.iconst 0, 1, 0, 0, 0, 0, 0), (.istore 4, 3, 4, 0, 0, 0, 0), am_dum, (.aload_n 0, 4, 0, 0, 0, 0, 0), (.iload_n 3, 5, 3, 0, 0, 0, 0), (.invokevirtual 84, 8, 47, 0, 1, 0, 0), am_dum, am_dum, (.istore 5, 10, 5, 0, 0, 0, 0), am_dum, 
  (.aload_n 0, 11, 0, 0, 0, 0, 0), (.iload_n 3, 12, 3, 0, 0, 0, 0), (.invokevirtual 87, 15, 46, 0, 1, 0, 0), am_dum, am_dum, (.istore 6, 17, 6, 0, 0, 0, 0), am_dum, (.iload 6, 19, 6, 0, 0, 0, 0), am_dum, 
  (.iload 5, 21, 5, 0, 0, 0, 0), am_dum, (.if_icmp .ge 30, 24, 51, 0, 0, 0, 0), am_dum, am_dum, (.lload_n 1, 25, 1, 0, 0, 0, 0), (.lconst 0, 26, 0, 0, 0, 0, 0), (.lcmp, 27, 0, 0, 0, 0, 0), (.ifCond .eq 18, 30, 45, 0, 0, 0, 0), 
  am_dum, am_dum, (.aload_n 0, 31, 0, 0, 0, 0, 0), (.getfield 29, 34, 3, 6, 0, 0, 0), am_dum, am_dum, (.iload 6, 36, 6, 0, 0, 0, 0), am_dum, (.laload, 37, 0, 0, 0, 0, 0), (.lload_n 1, 38, 1, 0, 0, 0, 0), (.lcmp, 39, 0, 0, 0, 0, 0), 
  (.ifCond .ne 6, 42, 45, 0, 0, 0, 0), am_dum, am_dum, (.iinc 4 1, 45, 4, 0, 0, 1, 0), am_dum, am_dum, (.iinc 6 1, 48, 6, 0, 0, 1, 0), am_dum, am_dum, (.goto (-31), 51, 17, 0, 0, 0, 0), am_dum, am_dum, 
  (.iload 4, 53, 4, 0, 0, 0, 0), am_dum, (.ireturn, 54, 0, 0, 0, 0, 0)]
def k_Sh_countTextsWith : List am_e := [
  (.iconst 0, 1, 0, 0, 0, 0, 0), (.istore 5, 3, 5, 0, 0, 0, 0), am_dum, (.iconst 0, 4, 0, 0, 0, 0, 0), (.istore 6, 6, 6, 0, 0, 0, 0), am_dum, (.iload 6, 8, 6, 0, 0, 0, 0), am_dum, (.aload_n 0, 9, 0, 0, 0, 0, 0), 
  (.getfield 38, 12, 3, 4, 0, 0, 0), am_dum, am_dum, (.if_icmp .ge 34, 15, 46, 0, 0, 0, 0), am_dum, am_dum, (.aload_n 0, 16, 0, 0, 0, 0, 0), (.iload 6, 18, 6, 0, 0, 0, 0), am_dum, (.iload_n 3, 19, 3, 0, 0, 0, 0), 
  (.iload 4, 21, 4, 0, 0, 0, 0), am_dum, (.invokevirtual 80, 24, 45, 0, 3, 0, 0), am_dum, am_dum, (.ifCond .eq 16, 27, 40, 0, 0, 0, 0), am_dum, am_dum, (.aload_n 0, 28, 0, 0, 0, 0, 0), (.lload_n 1, 29, 1, 0, 0, 0, 0), 
  (.iload 6, 31, 6, 0, 0, 0, 0), am_dum, (.invokevirtual 102, 34, 56, 0, 2, 0, 0), am_dum, am_dum, (.ifCond .le 6, 37, 40, 0, 0, 0, 0), am_dum, am_dum, (.iinc 5 1, 40, 5, 0, 0, 1, 0), am_dum, am_dum, (.iinc 6 1, 43, 6, 0, 0, 1, 0), 
  am_dum, am_dum, (.goto (-37), 46, 6, 0, 0, 0, 0), am_dum, am_dum, (.iload 5, 48, 5, 0, 0, 0, 0), am_dum, (.ireturn, 49, 0, 0, 0, 0, 0)]
def k_Sh_hasBeginning : List am_e := [
  (.aload_n 0, 1, 0, 0, 0, 0, 0), (.iload_n 3, 2, 3, 0, 0, 0, 0), (.invokevirtual 84, 5, 47, 0, 1, 0, 0), am_dum, am_dum, (.istore 4, 7, 4, 0, 0, 0, 0), am_dum, (.aload_n 0, 8, 0, 0, 0, 0, 0), (.iload_n 3, 9, 3, 0, 0, 0, 0), 
  (.invokevirtual 87, 12, 46, 0, 1, 0, 0), am_dum, am_dum, (.istore 5, 14, 5, 0, 0, 0, 0), am_dum, (.iload 5, 16, 5, 0, 0, 0, 0), am_dum, (.iload 4, 18, 4, 0, 0, 0, 0), am_dum, (.if_icmp .ge 37, 21, 55, 0, 0, 0, 0), am_dum, am_dum, 
  (.aload_n 0, 22, 0, 0, 0, 0, 0), (.getfield 29, 25, 3, 6, 0, 0, 0), am_dum, am_dum, (.iload 5, 27, 5, 0, 0, 0, 0), am_dum, (.laload, 28, 0, 0, 0, 0, 0), (.lconst 0, 29, 0, 0, 0, 0, 0), (.lcmp, 30, 0, 0, 0, 0, 0), 
  (.ifCond .eq 19, 33, 49, 0, 0, 0, 0), am_dum, am_dum, (.lload_n 1, 34, 1, 0, 0, 0, 0), (.aload_n 0, 35, 0, 0, 0, 0, 0), (.getfield 29, 38, 3, 6, 0, 0, 0), am_dum, am_dum, (.iload 5, 40, 5, 0, 0, 0, 0), am_dum, 
  (.laload, 41, 0, 0, 0, 0, 0), (.invokestatic 106, 44, 82, 3, 2, 0, 0), am_dum, am_dum, (.ifCond .eq 5, 47, 49, 0, 0, 0, 0), am_dum, am_dum, (.iconst 1, 48, 0, 0, 0, 1, 0), (.ireturn, 49, 1, 0, 0, 0, 0), 
  (.iinc 5 1, 52, 5, 0, 0, 1, 0), am_dum, am_dum, (.goto (-38), 55, 14, 0, 0, 0, 0), am_dum, am_dum, (.iconst 0, 56, 0, 0, 0, 0, 0), (.ireturn, 57, 1, 0, 0, 0, 0)]
def k_Sh_hasPhrase : List am_e := [
  (.aload_n 0, 1, 0, 0, 0, 0, 0), (.iload 4, 3, 4, 0, 0, 0, 0), am_dum, (.invokevirtual 84, 6, 47, 0, 1, 0, 0), am_dum, am_dum, (.istore 5, 8, 5, 0, 0, 0, 0), am_dum, (.aload_n 0, 9, 0, 0, 0, 0, 0), (.iload 4, 11, 4, 0, 0, 0, 0), 
  am_dum, (.invokevirtual 87, 14, 46, 0, 1, 0, 0), am_dum, am_dum, (.istore 6, 16, 6, 0, 0, 0, 0), am_dum, (.iload 6, 18, 6, 0, 0, 0, 0), am_dum, (.iload_n 3, 19, 3, 0, 0, 0, 0), (.iadd, 20, 0, 0, 0, 0, 0), 
  (.iload 5, 22, 5, 0, 0, 0, 0), am_dum, (.if_icmp .gt 23, 25, 45, 0, 0, 0, 0), am_dum, am_dum, (.aload_n 0, 26, 0, 0, 0, 0, 0), (.iload 6, 28, 6, 0, 0, 0, 0), am_dum, (.aload_n 1, 29, 1, 0, 0, 0, 0), 
  (.iload_n 2, 30, 2, 0, 0, 0, 0), (.iload_n 3, 31, 3, 0, 0, 0, 0), (.invokevirtual 110, 34, 60, 0, 4, 0, 0), am_dum, am_dum, (.ifCond .eq 5, 37, 39, 0, 0, 0, 0), am_dum, am_dum, (.iconst 1, 38, 0, 0, 0, 1, 0), 
  (.ireturn, 39, 1, 0, 0, 0, 0), (.iinc 6 1, 42, 6, 0, 0, 1, 0), am_dum, am_dum, (.goto (-26), 45, 16, 0, 0, 0, 0), am_dum, am_dum, (.iconst 0, 46, 0, 0, 0, 0, 0), (.ireturn, 47, 1, 0, 0, 0, 0)]
def k_Sh_standsAt : List am_e := [
  (.iconst 0, 1, 0, 0, 0, 0, 0), (.istore 5, 3, 5, 0, 0, 0, 0), am_dum, (.iload 5, 5, 5, 0, 0, 0, 0), am_dum, (.iload 4, 7, 4, 0, 0, 0, 0), am_dum, (.if_icmp .ge 64, 10, 71, 0, 0, 0, 0), am_dum, am_dum, 
  (.iload_n 3, 11, 3, 0, 0, 0, 0), (.iload 5, 13, 5, 0, 0, 0, 0), am_dum, (.iadd, 14, 0, 0, 0, 0, 0), (.aload_n 2, 15, 2, 0, 0, 0, 0), (.arraylength, 16, 0, 0, 0, 0, 0), (.if_icmp .ge 15, 19, 31, 0, 0, 0, 0), am_dum, am_dum, 
  (.iload_n 1, 20, 1, 0, 0, 0, 0), (.iload 5, 22, 5, 0, 0, 0, 0), am_dum, (.iadd, 23, 0, 0, 0, 0, 0), (.aload_n 0, 24, 0, 0, 0, 0, 0), (.getfield 29, 27, 3, 6, 0, 0, 0), am_dum, am_dum, (.arraylength, 28, 0, 0, 0, 0, 0), 
  (.if_icmp .lt 5, 31, 33, 0, 0, 0, 0), am_dum, am_dum, (.iconst 0, 32, 0, 0, 0, 0, 0), (.ireturn, 33, 1, 0, 0, 0, 0), (.aload_n 2, 34, 2, 0, 0, 0, 0), (.iload_n 3, 35, 3, 0, 0, 0, 0), (.iload 5, 37, 5, 0, 0, 0, 0), am_dum, 
  (.iadd, 38, 0, 0, 0, 0, 0), (.laload, 39, 0, 0, 0, 0, 0), (.lstore 6, 41, 6, 0, 0, 0, 0), am_dum, (.lload 6, 43, 6, 0, 0, 0, 0), am_dum, (.lconst 0, 44, 0, 0, 0, 0, 0), (.lcmp, 45, 0, 0, 0, 0, 0), 
  (.ifCond .eq 20, 48, 65, 0, 0, 0, 0), am_dum, am_dum, (.aload_n 0, 49, 0, 0, 0, 0, 0), (.getfield 29, 52, 3, 6, 0, 0, 0), am_dum, am_dum, (.iload_n 1, 53, 1, 0, 0, 0, 0), (.iload 5, 55, 5, 0, 0, 0, 0), am_dum, 
  (.iadd, 56, 0, 0, 0, 0, 0), (.laload, 57, 0, 0, 0, 0, 0), (.lload 6, 59, 6, 0, 0, 0, 0), am_dum, (.lcmp, 60, 0, 0, 0, 0, 0), (.ifCond .eq 5, 63, 65, 0, 0, 0, 0), am_dum, am_dum, (.iconst 0, 64, 0, 0, 0, 0, 0), 
  (.ireturn, 65, 1, 0, 0, 0, 0), (.iinc 5 1, 68, 5, 0, 0, 1, 0), am_dum, am_dum, (.goto (-65), 71, 3, 0, 0, 0, 0), am_dum, am_dum, (.iconst 1, 72, 0, 0, 0, 1, 0), (.ireturn, 73, 1, 0, 0, 0, 0)]
def k_Sh_wordUnlessStop : List am_e := [
  (.iload_n 1, 1, 1, 0, 0, 0, 0), (.ifCond .lt 22, 4, 23, 0, 0, 0, 0), am_dum, am_dum, (.iload_n 1, 5, 1, 0, 0, 0, 0), (.aload_n 0, 6, 0, 0, 0, 0, 0), (.getfield 42, 9, 3, 9, 0, 0, 0), am_dum, am_dum, 
  (.if_icmp .ge 14, 12, 23, 0, 0, 0, 0), am_dum, am_dum, (.iload_n 1, 13, 1, 0, 0, 0, 0), (.sipush 400, 16, 0, 0, 0, 400, 0), am_dum, am_dum, (.if_icmp .ge 7, 19, 23, 0, 0, 0, 0), am_dum, am_dum, (.iconst 1, 20, 0, 0, 0, 1, 0), 
  (.goto 4, 23, 24, 0, 0, 0, 0), am_dum, am_dum, (.iconst 0, 24, 0, 0, 0, 0, 0), (.istore_n 2, 25, 2, 0, 0, 0, 0), (.iload_n 2, 26, 2, 0, 0, 0, 0), (.ifCond .eq 23, 29, 49, 0, 0, 0, 0), am_dum, am_dum, 
  (.aload_n 0, 30, 0, 0, 0, 0, 0), (.getfield 29, 33, 3, 6, 0, 0, 0), am_dum, am_dum, (.iload_n 1, 34, 1, 0, 0, 0, 0), (.laload, 35, 0, 0, 0, 0, 0), (.lconst 0, 36, 0, 0, 0, 0, 0), (.lcmp, 37, 0, 0, 0, 0, 0), 
  (.ifCond .eq 12, 40, 49, 0, 0, 0, 0), am_dum, am_dum, (.aload_n 0, 41, 0, 0, 0, 0, 0), (.getfield 25, 44, 3, 5, 0, 0, 0), am_dum, am_dum, (.iload_n 1, 45, 1, 0, 0, 0, 0), (.laload, 46, 0, 0, 0, 0, 0), 
  (.goto 4, 49, 50, 0, 0, 0, 0), am_dum, am_dum, (.lconst 0, 50, 0, 0, 0, 0, 0), (.lreturn, 51, 0, 0, 0, 0, 0)]
def k_Ta_init : List am_e := [
  (.aload_n 0, 1, 0, 0, 0, 0, 0), (.invokespecial 1, 4, 0, 4, 0, 0, 0), am_dum, am_dum, (.aload_n 0, 5, 0, 0, 0, 0, 0), (.bipush 96, 7, 0, 0, 0, 96, 0), am_dum, (.newarray .int, 9, 0, 0, 0, 0, 0), am_dum, 
  (.putfield 9, 12, 1, 0, 0, 0, 0), am_dum, am_dum, (.aload_n 0, 13, 0, 0, 0, 0, 0), (.bipush 48, 15, 0, 0, 0, 48, 0), am_dum, (.newarray .long, 17, 3, 0, 0, 0, 0), am_dum, (.putfield 13, 20, 1, 2, 0, 0, 0), am_dum, am_dum, 
  (.aload_n 0, 21, 0, 0, 0, 0, 0), (.bipush 48, 23, 0, 0, 0, 48, 0), am_dum, (.newarray .int, 25, 0, 0, 0, 0, 0), am_dum, (.putfield 17, 28, 1, 3, 0, 0, 0), am_dum, am_dum, (.aload_n 0, 29, 0, 0, 0, 0, 0), 
  (.bipush 48, 31, 0, 0, 0, 48, 0), am_dum, (.newarray .int, 33, 0, 0, 0, 0, 0), am_dum, (.putfield 20, 36, 1, 4, 0, 0, 0), am_dum, am_dum, (.return_, 37, 0, 0, 0, 0, 0)]
def k_Ta_length : List am_e := [
  (.aload_n 0, 1, 0, 0, 0, 0, 0), (.getfield 23, 4, 1, 1, 0, 0, 0), am_dum, am_dum, (.ireturn, 5, 0, 0, 0, 0, 0)]
def k_Ta_append : List am_e := [
  (.aload_n 0, 1, 0, 0, 0, 0, 0), (.getfield 23, 4, 1, 1, 0, 0, 0), am_dum, am_dum, (.iload_n 3, 5, 3, 0, 0, 0, 0), (.iadd, 6, 0, 0, 0, 0, 0), (.bipush 96, 8, 0, 0, 0, 96, 0), am_dum, (.if_icmp .le 5, 11, 13, 0, 0, 0, 0), am_dum, 
  am_dum, (.iconst 0, 12, 0, 0, 0, 0, 0), (.ireturn, 13, 1, 0, 0, 0, 0), (.iload_n 3, 14, 3, 0, 0, 0, 0), (.iconst 1, 15, 0, 0, 0, 1, 0), (.isub, 16, 0, 0, 0, 0, 0), (.istore 4, 18, 4, 0, 0, 0, 0), am_dum, 
  (.iload 4, 20, 4, 0, 0, 0, 0), am_dum, (.ifCond .lt 52, 23, 72, 0, 0, 0, 0), am_dum, am_dum, (.aload_n 0, 24, 0, 0, 0, 0, 0), (.getfield 23, 27, 1, 1, 0, 0, 0), am_dum, am_dum, (.aload_n 0, 28, 0, 0, 0, 0, 0), 
  (.getfield 9, 31, 1, 0, 0, 0, 0), am_dum, am_dum, (.arraylength, 32, 0, 0, 0, 0, 0), (.if_icmp .ge 40, 35, 72, 0, 0, 0, 0), am_dum, am_dum, (.aload_n 0, 36, 0, 0, 0, 0, 0), (.getfield 9, 39, 1, 0, 0, 0, 0), am_dum, am_dum, 
  (.aload_n 0, 40, 0, 0, 0, 0, 0), (.getfield 23, 43, 1, 1, 0, 0, 0), am_dum, am_dum, (.lload_n 1, 44, 1, 0, 0, 0, 0), (.bipush 8, 46, 0, 0, 0, 8, 0), am_dum, (.iload 4, 48, 4, 0, 0, 0, 0), am_dum, (.imul, 49, 0, 0, 0, 0, 0), 
  (.lushr, 50, 0, 0, 0, 0, 0), (.ldc2_w 27, 53, 0, 0, 0, 0, 255), am_dum, am_dum, (.land, 54, 0, 0, 0, 0, 0), (.l2i, 55, 0, 0, 0, 0, 0), (.iastore, 56, 0, 0, 0, 0, 0), (.aload_n 0, 57, 0, 0, 0, 0, 0), (.dup, 58, 0, 0, 0, 0, 0), 
  (.getfield 23, 61, 1, 1, 0, 0, 0), am_dum, am_dum, (.iconst 1, 62, 0, 0, 0, 1, 0), (.iadd, 63, 0, 0, 0, 0, 0), (.putfield 23, 66, 1, 1, 0, 0, 0), am_dum, am_dum, (.iinc 4 (-1), 69, 4, 0, 0, -1, 0), am_dum, am_dum, 
  (.goto (-51), 72, 18, 0, 0, 0, 0), am_dum, am_dum, (.iconst 1, 73, 0, 0, 0, 1, 0), (.ireturn, 74, 1, 0, 0, 0, 0)]
def k_Ta_clear : List am_e := [
  (.aload_n 0, 1, 0, 0, 0, 0, 0), (.iconst 0, 2, 0, 0, 0, 0, 0), (.putfield 23, 5, 1, 1, 0, 0, 0), am_dum, am_dum, (.aload_n 0, 6, 0, 0, 0, 0, 0), (.iconst 0, 7, 0, 0, 0, 0, 0), (.putfield 29, 10, 1, 5, 0, 0, 0), am_dum, am_dum, 
  (.return_, 11, 0, 0, 0, 0, 0)]
def k_Ta_symbolAt : List am_e := [
  (.iload_n 1, 1, 1, 0, 0, 0, 0), (.ifCond .lt 29, 4, 30, 0, 0, 0, 0), am_dum, am_dum, (.iload_n 1, 5, 1, 0, 0, 0, 0), (.aload_n 0, 6, 0, 0, 0, 0, 0), (.getfield 23, 9, 1, 1, 0, 0, 0), am_dum, am_dum, 
  (.if_icmp .ge 21, 12, 30, 0, 0, 0, 0), am_dum, am_dum, (.iload_n 1, 13, 1, 0, 0, 0, 0), (.aload_n 0, 14, 0, 0, 0, 0, 0), (.getfield 9, 17, 1, 0, 0, 0, 0), am_dum, am_dum, (.arraylength, 18, 0, 0, 0, 0, 0), 
  (.if_icmp .ge 12, 21, 30, 0, 0, 0, 0), am_dum, am_dum, (.aload_n 0, 22, 0, 0, 0, 0, 0), (.getfield 9, 25, 1, 0, 0, 0, 0), am_dum, am_dum, (.iload_n 1, 26, 1, 0, 0, 0, 0), (.iaload, 27, 0, 0, 0, 0, 0), 
  (.goto 4, 30, 31, 0, 0, 0, 0), am_dum, am_dum, (.iconst (-1), 31, 0, 0, 0, -1, 0), (.ireturn, 32, 0, 0, 0, 0, 0)]
def k_Ta_wordEnd : List am_e := [
  (.iload_n 1, 1, 1, 0, 0, 0, 0), (.istore_n 2, 2, 2, 0, 0, 0, 0), (.iload_n 2, 3, 2, 0, 0, 0, 0), (.aload_n 0, 4, 0, 0, 0, 0, 0), (.getfield 23, 7, 1, 1, 0, 0, 0), am_dum, am_dum, (.if_icmp .ge 22, 10, 29, 0, 0, 0, 0), am_dum, 
  am_dum, (.aload_n 0, 11, 0, 0, 0, 0, 0), (.iload_n 2, 12, 2, 0, 0, 0, 0), (.invokevirtual 32, 15, 66, 0, 1, 0, 0), am_dum, am_dum, (.invokestatic 36, 18, 76, 3, 1, 0, 0), am_dum, am_dum, (.ifCond .ne 5, 21, 23, 0, 0, 0, 0), 
  am_dum, am_dum, (.iload_n 2, 22, 2, 0, 0, 0, 0), (.ireturn, 23, 0, 0, 0, 0, 0), (.iinc 2 1, 26, 2, 0, 0, 1, 0), am_dum, am_dum, (.goto (-24), 29, 2, 0, 0, 0, 0), am_dum, am_dum, (.aload_n 0, 30, 0, 0, 0, 0, 0), 
  (.getfield 23, 33, 1, 1, 0, 0, 0), am_dum, am_dum, (.ireturn, 34, 0, 0, 0, 0, 0)]
def k_Ta_wordBetween : List am_e := [
  (.lconst 0, 1, 0, 0, 0, 0, 0), (.lstore_n 3, 2, 3, 0, 0, 0, 0), (.iconst 0, 3, 0, 0, 0, 0, 0), (.istore 5, 5, 5, 0, 0, 0, 0), am_dum, (.iload 5, 7, 5, 0, 0, 0, 0), am_dum, (.bipush 12, 9, 0, 0, 0, 12, 0), am_dum, 
  (.if_icmp .ge 39, 12, 48, 0, 0, 0, 0), am_dum, am_dum, (.iload_n 1, 13, 1, 0, 0, 0, 0), (.iload 5, 15, 5, 0, 0, 0, 0), am_dum, (.iadd, 16, 0, 0, 0, 0, 0), (.istore 6, 18, 6, 0, 0, 0, 0), am_dum, (.lload_n 3, 19, 3, 0, 0, 0, 0), 
  (.iload 6, 21, 6, 0, 0, 0, 0), am_dum, (.iload_n 2, 22, 2, 0, 0, 0, 0), (.if_icmp .ge 15, 25, 37, 0, 0, 0, 0), am_dum, am_dum, (.aload_n 0, 26, 0, 0, 0, 0, 0), (.iload 6, 28, 6, 0, 0, 0, 0), am_dum, 
  (.invokevirtual 32, 31, 66, 0, 1, 0, 0), am_dum, am_dum, (.invokestatic 36, 34, 76, 3, 1, 0, 0), am_dum, am_dum, (.goto 4, 37, 38, 0, 0, 0, 0), am_dum, am_dum, (.iconst 0, 38, 0, 0, 0, 0, 0), 
  (.invokestatic 41, 41, 77, 3, 2, 0, 0), am_dum, am_dum, (.lstore_n 3, 42, 3, 0, 0, 0, 0), (.iinc 5 1, 45, 5, 0, 0, 1, 0), am_dum, am_dum, (.goto (-40), 48, 5, 0, 0, 0, 0), am_dum, am_dum, (.lload_n 3, 49, 3, 0, 0, 0, 0), 
  (.lreturn, 50, 0, 0, 0, 0, 0)]
def k_Ta_split : List am_e := [
  (.aload_n 0, 1, 0, 0, 0, 0, 0), (.iconst 0, 2, 0, 0, 0, 0, 0), (.putfield 29, 5, 1, 5, 0, 0, 0), am_dum, am_dum, (.iconst 0, 6, 0, 0, 0, 0, 0), (.istore_n 1, 7, 1, 0, 0, 0, 0), (.iconst 0, 8, 0, 0, 0, 0, 0), 
  (.istore_n 2, 9, 2, 0, 0, 0, 0), (.iload_n 2, 10, 2, 0, 0, 0, 0), (.aload_n 0, 11, 0, 0, 0, 0, 0), (.getfield 23, 14, 1, 1, 0, 0, 0), am_dum, am_dum, (.if_icmp .ge 46, 17, 60, 0, 0, 0, 0), am_dum, am_dum, 
  (.iload_n 1, 18, 1, 0, 0, 0, 0), (.istore_n 3, 19, 3, 0, 0, 0, 0), (.aload_n 0, 20, 0, 0, 0, 0, 0), (.iload_n 2, 21, 2, 0, 0, 0, 0), (.invokevirtual 32, 24, 66, 0, 1, 0, 0), am_dum, am_dum, (.invokestatic 36, 27, 76, 3, 1, 0, 0), 
  am_dum, am_dum, (.ifCond .eq 7, 30, 34, 0, 0, 0, 0), am_dum, am_dum, (.iconst 1, 31, 0, 0, 0, 1, 0), (.goto 4, 34, 35, 0, 0, 0, 0), am_dum, am_dum, (.iconst 0, 35, 0, 0, 0, 0, 0), (.istore_n 1, 36, 1, 0, 0, 0, 0), 
  (.iload_n 1, 37, 1, 0, 0, 0, 0), (.ifCond .eq 17, 40, 54, 0, 0, 0, 0), am_dum, am_dum, (.iload_n 3, 41, 3, 0, 0, 0, 0), (.ifCond .ne 13, 44, 54, 0, 0, 0, 0), am_dum, am_dum, (.aload_n 0, 45, 0, 0, 0, 0, 0), 
  (.iload_n 2, 46, 2, 0, 0, 0, 0), (.aload_n 0, 47, 0, 0, 0, 0, 0), (.iload_n 2, 48, 2, 0, 0, 0, 0), (.invokevirtual 45, 51, 67, 0, 1, 0, 0), am_dum, am_dum, (.invokevirtual 48, 54, 70, 0, 2, 0, 0), am_dum, am_dum, 
  (.iinc 2 1, 57, 2, 0, 0, 1, 0), am_dum, am_dum, (.goto (-48), 60, 9, 0, 0, 0, 0), am_dum, am_dum, (.aload_n 0, 61, 0, 0, 0, 0, 0), (.getfield 29, 64, 1, 5, 0, 0, 0), am_dum, am_dum, (.ireturn, 65, 0, 0, 0, 0, 0)]
def k_Ta_keepWord : List am_e := [
  (.aload_n 0, 1, 0, 0, 0, 0, 0), (.getfield 29, 4, 1, 5, 0, 0, 0), am_dum, am_dum, (.bipush 48, 6, 0, 0, 0, 48, 0), am_dum, (.if_icmp .ge 50, 9, 56, 0, 0, 0, 0), am_dum, am_dum, (.aload_n 0, 10, 0, 0, 0, 0, 0), 
  (.getfield 13, 13, 1, 2, 0, 0, 0), am_dum, am_dum, (.aload_n 0, 14, 0, 0, 0, 0, 0), (.getfield 29, 17, 1, 5, 0, 0, 0), am_dum, am_dum, (.aload_n 0, 18, 0, 0, 0, 0, 0), (.iload_n 1, 19, 1, 0, 0, 0, 0), 
  (.iload_n 2, 20, 2, 0, 0, 0, 0), (.invokevirtual 52, 23, 68, 0, 2, 0, 0), am_dum, am_dum, (.lastore, 24, 0, 0, 0, 0, 0), (.aload_n 0, 25, 0, 0, 0, 0, 0), (.getfield 17, 28, 1, 3, 0, 0, 0), am_dum, am_dum, 
  (.aload_n 0, 29, 0, 0, 0, 0, 0), (.getfield 29, 32, 1, 5, 0, 0, 0), am_dum, am_dum, (.iload_n 1, 33, 1, 0, 0, 0, 0), (.iastore, 34, 0, 0, 0, 0, 0), (.aload_n 0, 35, 0, 0, 0, 0, 0), (.getfield 20, 38, 1, 4, 0, 0, 0), am_dum, 
  am_dum, (.aload_n 0, 39, 0, 0, 0, 0, 0), (.getfield 29, 42, 1, 5, 0, 0, 0), am_dum, am_dum, (.iload_n 2, 43, 2, 0, 0, 0, 0), (.iload_n 1, 44, 1, 0, 0, 0, 0), (.isub, 45, 0, 0, 0, 0, 0), (.iastore, 46, 0, 0, 0, 0, 0), 
  (.aload_n 0, 47, 0, 0, 0, 0, 0), (.dup, 48, 0, 0, 0, 0, 0), (.getfield 29, 51, 1, 5, 0, 0, 0), am_dum, am_dum, (.iconst 1, 52, 0, 0, 0, 1, 0), (.iadd, 53, 0, 0, 0, 0, 0), (.putfield 29, 56, 1, 5, 0, 0, 0), am_dum, am_dum, 
  (.return_, 57, 0, 0, 0, 0, 0)]
def k_Ta_wordCount : List am_e := [
  (.aload_n 0, 1, 0, 0, 0, 0, 0), (.getfield 29, 4, 1, 5, 0, 0, 0), am_dum, am_dum, (.ireturn, 5, 0, 0, 0, 0, 0)]
def k_Ta_hasWord : List am_e := [
  (.iload_n 1, 1, 1, 0, 0, 0, 0), (.ifCond .lt 21, 4, 22, 0, 0, 0, 0), am_dum, am_dum, (.iload_n 1, 5, 1, 0, 0, 0, 0), (.aload_n 0, 6, 0, 0, 0, 0, 0), (.getfield 29, 9, 1, 5, 0, 0, 0), am_dum, am_dum, 
  (.if_icmp .ge 13, 12, 22, 0, 0, 0, 0), am_dum, am_dum, (.iload_n 1, 13, 1, 0, 0, 0, 0), (.bipush 48, 15, 0, 0, 0, 48, 0), am_dum, (.if_icmp .ge 7, 18, 22, 0, 0, 0, 0), am_dum, am_dum, (.iconst 1, 19, 0, 0, 0, 1, 0), 
  (.goto 4, 22, 23, 0, 0, 0, 0), am_dum, am_dum, (.iconst 0, 23, 0, 0, 0, 0, 0), (.ireturn, 24, 1, 0, 0, 0, 0)]
def k_Ta_wordAt : List am_e := [
  (.aload_n 0, 1, 0, 0, 0, 0, 0), (.iload_n 1, 2, 1, 0, 0, 0, 0), (.invokevirtual 56, 5, 72, 0, 1, 0, 0), am_dum, am_dum, (.ifCond .eq 12, 8, 17, 0, 0, 0, 0), am_dum, am_dum, (.aload_n 0, 9, 0, 0, 0, 0, 0), 
  (.getfield 13, 12, 1, 2, 0, 0, 0), am_dum, am_dum, (.iload_n 1, 13, 1, 0, 0, 0, 0), (.laload, 14, 0, 0, 0, 0, 0), (.goto 4, 17, 18, 0, 0, 0, 0), am_dum, am_dum, (.lconst 0, 18, 0, 0, 0, 0, 0), (.lreturn, 19, 0, 0, 0, 0, 0)]
def k_Ta_startAt : List am_e := [
  (.aload_n 0, 1, 0, 0, 0, 0, 0), (.iload_n 1, 2, 1, 0, 0, 0, 0), (.invokevirtual 56, 5, 72, 0, 1, 0, 0), am_dum, am_dum, (.ifCond .eq 12, 8, 17, 0, 0, 0, 0), am_dum, am_dum, (.aload_n 0, 9, 0, 0, 0, 0, 0), 
  (.getfield 17, 12, 1, 3, 0, 0, 0), am_dum, am_dum, (.iload_n 1, 13, 1, 0, 0, 0, 0), (.iaload, 14, 0, 0, 0, 0, 0), (.goto 4, 17, 18, 0, 0, 0, 0), am_dum, am_dum, (.iconst 0, 18, 0, 0, 0, 0, 0), (.ireturn, 19, 0, 0, 0, 0, 0)]
def k_Ta_sizeAt : List am_e := [
  (.aload_n 0, 1, 0, 0, 0, 0, 0), (.iload_n 1, 2, 1, 0, 0, 0, 0), (.invokevirtual 56, 5, 72, 0, 1, 0, 0), am_dum, am_dum, (.ifCond .eq 12, 8, 17, 0, 0, 0, 0), am_dum, am_dum, (.aload_n 0, 9, 0, 0, 0, 0, 0), 
  (.getfield 20, 12, 1, 4, 0, 0, 0), am_dum, am_dum, (.iload_n 1, 13, 1, 0, 0, 0, 0), (.iaload, 14, 0, 0, 0, 0, 0), (.goto 4, 17, 18, 0, 0, 0, 0), am_dum, am_dum, (.iconst 0, 18, 0, 0, 0, 0, 0), (.ireturn, 19, 0, 0, 0, 0, 0)]
def k_Wo_digitOf : List am_e := [
  (.iload_n 0, 1, 0, 0, 0, 0, 0), (.bipush 48, 3, 0, 0, 0, 48, 0), am_dum, (.if_icmp .lt 16, 6, 19, 0, 0, 0, 0), am_dum, am_dum, (.iload_n 0, 7, 0, 0, 0, 0, 0), (.bipush 57, 9, 0, 0, 0, 57, 0), am_dum, 
  (.if_icmp .gt 10, 12, 19, 0, 0, 0, 0), am_dum, am_dum, (.iload_n 0, 13, 0, 0, 0, 0, 0), (.bipush 48, 15, 0, 0, 0, 48, 0), am_dum, (.isub, 16, 0, 0, 0, 0, 0), (.iconst 1, 17, 0, 0, 0, 1, 0), (.iadd, 18, 0, 0, 0, 0, 0), 
  (.ireturn, 19, 0, 0, 0, 0, 0), (.iload_n 0, 20, 0, 0, 0, 0, 0), (.bipush 97, 22, 0, 0, 0, 97, 0), am_dum, (.if_icmp .lt 17, 25, 39, 0, 0, 0, 0), am_dum, am_dum, (.iload_n 0, 26, 0, 0, 0, 0, 0), (.bipush 122, 28, 0, 0, 0, 122, 0), 
  am_dum, (.if_icmp .gt 11, 31, 39, 0, 0, 0, 0), am_dum, am_dum, (.iload_n 0, 32, 0, 0, 0, 0, 0), (.bipush 97, 34, 0, 0, 0, 97, 0), am_dum, (.isub, 35, 0, 0, 0, 0, 0), (.bipush 11, 37, 0, 0, 0, 11, 0), am_dum, 
  (.iadd, 38, 0, 0, 0, 0, 0), (.ireturn, 39, 0, 0, 0, 0, 0), (.iload_n 0, 40, 0, 0, 0, 0, 0), (.bipush 65, 42, 0, 0, 0, 65, 0), am_dum, (.if_icmp .lt 17, 45, 59, 0, 0, 0, 0), am_dum, am_dum, (.iload_n 0, 46, 0, 0, 0, 0, 0), 
  (.bipush 90, 48, 0, 0, 0, 90, 0), am_dum, (.if_icmp .gt 11, 51, 59, 0, 0, 0, 0), am_dum, am_dum, (.iload_n 0, 52, 0, 0, 0, 0, 0), (.bipush 65, 54, 0, 0, 0, 65, 0), am_dum, (.isub, 55, 0, 0, 0, 0, 0), 
  (.bipush 11, 57, 0, 0, 0, 11, 0), am_dum, (.iadd, 58, 0, 0, 0, 0, 0), (.ireturn, 59, 0, 0, 0, 0, 0), (.iconst 0, 60, 0, 0, 0, 0, 0), (.ireturn, 61, 0, 0, 0, 0, 0)]
def k_Wo_withDigit : List am_e := [
  (.lload_n 0, 1, 0, 0, 0, 0, 0), (.ldc2_w 9, 4, 0, 0, 0, 0, 37), am_dum, am_dum, (.lmul, 5, 0, 0, 0, 0, 0), (.iload_n 2, 6, 2, 0, 0, 0, 0), (.i2l, 7, 0, 0, 0, 0, 0), (.ladd, 8, 0, 0, 0, 0, 0), (.lreturn, 9, 0, 0, 0, 0, 0)]
def k_Wo_withZeros : List am_e := [
  (.lload_n 0, 1, 0, 0, 0, 0, 0), (.lstore_n 3, 2, 3, 0, 0, 0, 0), (.iconst 0, 3, 0, 0, 0, 0, 0), (.istore 5, 5, 5, 0, 0, 0, 0), am_dum, (.iload 5, 7, 5, 0, 0, 0, 0), am_dum, (.iload_n 2, 8, 2, 0, 0, 0, 0), 
  (.if_icmp .ge 22, 11, 30, 0, 0, 0, 0), am_dum, am_dum, (.iload 5, 13, 5, 0, 0, 0, 0), am_dum, (.bipush 12, 15, 0, 0, 0, 12, 0), am_dum, (.if_icmp .ge 15, 18, 30, 0, 0, 0, 0), am_dum, am_dum, (.lload_n 3, 19, 3, 0, 0, 0, 0), 
  (.ldc2_w 9, 22, 0, 0, 0, 0, 37), am_dum, am_dum, (.lmul, 23, 0, 0, 0, 0, 0), (.lstore_n 3, 24, 3, 0, 0, 0, 0), (.iinc 5 1, 27, 5, 0, 0, 1, 0), am_dum, am_dum, (.goto (-22), 30, 5, 0, 0, 0, 0), am_dum, am_dum, 
  (.lload_n 3, 31, 3, 0, 0, 0, 0), (.lreturn, 32, 0, 0, 0, 0, 0)]
def k_Wo_withoutLast : List am_e := [
  (.lload_n 0, 1, 0, 0, 0, 0, 0), (.lstore_n 3, 2, 3, 0, 0, 0, 0), (.iconst 0, 3, 0, 0, 0, 0, 0), (.istore 5, 5, 5, 0, 0, 0, 0), am_dum, (.iload 5, 7, 5, 0, 0, 0, 0), am_dum, (.iload_n 2, 8, 2, 0, 0, 0, 0), 
  (.if_icmp .ge 22, 11, 30, 0, 0, 0, 0), am_dum, am_dum, (.iload 5, 13, 5, 0, 0, 0, 0), am_dum, (.bipush 12, 15, 0, 0, 0, 12, 0), am_dum, (.if_icmp .ge 15, 18, 30, 0, 0, 0, 0), am_dum, am_dum, (.lload_n 3, 19, 3, 0, 0, 0, 0), 
  (.ldc2_w 9, 22, 0, 0, 0, 0, 37), am_dum, am_dum, (.ldiv, 23, 0, 0, 0, 0, 0), (.lstore_n 3, 24, 3, 0, 0, 0, 0), (.iinc 5 1, 27, 5, 0, 0, 1, 0), am_dum, am_dum, (.goto (-22), 30, 5, 0, 0, 0, 0), am_dum, am_dum, 
  (.lload_n 3, 31, 3, 0, 0, 0, 0), (.lreturn, 32, 0, 0, 0, 0, 0)]
def k_Wo_lengthOf : List am_e := [
  (.lload_n 0, 1, 0, 0, 0, 0, 0), (.lstore_n 2, 2, 2, 0, 0, 0, 0), (.bipush 12, 4, 0, 0, 0, 12, 0), am_dum, (.istore 4, 6, 4, 0, 0, 0, 0), am_dum, (.iload 4, 8, 4, 0, 0, 0, 0), am_dum, (.ifCond .le 28, 11, 36, 0, 0, 0, 0), am_dum, 
  am_dum, (.lload_n 2, 12, 2, 0, 0, 0, 0), (.ldc2_w 9, 15, 0, 0, 0, 0, 37), am_dum, am_dum, (.lrem, 16, 0, 0, 0, 0, 0), (.lconst 0, 17, 0, 0, 0, 0, 0), (.lcmp, 18, 0, 0, 0, 0, 0), (.ifCond .eq 6, 21, 24, 0, 0, 0, 0), am_dum, 
  am_dum, (.iload 4, 23, 4, 0, 0, 0, 0), am_dum, (.ireturn, 24, 0, 0, 0, 0, 0), (.lload_n 2, 25, 2, 0, 0, 0, 0), (.ldc2_w 9, 28, 0, 0, 0, 0, 37), am_dum, am_dum, (.ldiv, 29, 0, 0, 0, 0, 0), (.lstore_n 2, 30, 2, 0, 0, 0, 0), 
  (.iinc 4 (-1), 33, 4, 0, 0, -1, 0), am_dum, am_dum, (.goto (-27), 36, 6, 0, 0, 0, 0), am_dum, am_dum, (.iconst 0, 37, 0, 0, 0, 0, 0), (.ireturn, 38, 0, 0, 0, 0, 0)]
def k_Wo_symbolAt : List am_e := [
  (.lload_n 0, 1, 0, 0, 0, 0, 0), (.bipush 11, 3, 0, 0, 0, 11, 0), am_dum, (.iload_n 2, 4, 2, 0, 0, 0, 0), (.isub, 5, 0, 0, 0, 0, 0), (.invokestatic 11, 8, 79, 3, 2, 0, 0), am_dum, am_dum, (.ldc2_w 9, 11, 0, 0, 0, 0, 37), am_dum, 
  am_dum, (.lrem, 12, 0, 0, 0, 0, 0), (.l2i, 13, 0, 0, 0, 0, 0), (.istore_n 3, 14, 3, 0, 0, 0, 0), (.iload_n 3, 15, 3, 0, 0, 0, 0), (.bipush 11, 17, 0, 0, 0, 11, 0), am_dum, (.if_icmp .lt 13, 20, 30, 0, 0, 0, 0), am_dum, am_dum, 
  (.iload_n 3, 21, 3, 0, 0, 0, 0), (.bipush 11, 23, 0, 0, 0, 11, 0), am_dum, (.isub, 24, 0, 0, 0, 0, 0), (.bipush 97, 26, 0, 0, 0, 97, 0), am_dum, (.iadd, 27, 0, 0, 0, 0, 0), (.goto 9, 30, 36, 0, 0, 0, 0), am_dum, am_dum, 
  (.iload_n 3, 31, 3, 0, 0, 0, 0), (.iconst 1, 32, 0, 0, 0, 1, 0), (.isub, 33, 0, 0, 0, 0, 0), (.bipush 48, 35, 0, 0, 0, 48, 0), am_dum, (.iadd, 36, 0, 0, 0, 0, 0), (.ireturn, 37, 0, 0, 0, 0, 0)]
def k_Wo_isBeginning : List am_e := [
  (.bipush 12, 2, 0, 0, 0, 12, 0), am_dum, (.lload_n 0, 3, 0, 0, 0, 0, 0), (.invokestatic 15, 6, 80, 3, 1, 0, 0), am_dum, am_dum, (.isub, 7, 0, 0, 0, 0, 0), (.istore 4, 9, 4, 0, 0, 0, 0), am_dum, (.lload_n 0, 10, 0, 0, 0, 0, 0), 
  (.iload 4, 12, 4, 0, 0, 0, 0), am_dum, (.invokestatic 11, 15, 79, 3, 2, 0, 0), am_dum, am_dum, (.lload_n 2, 16, 2, 0, 0, 0, 0), (.iload 4, 18, 4, 0, 0, 0, 0), am_dum, (.invokestatic 11, 21, 79, 3, 2, 0, 0), am_dum, am_dum, 
  (.lcmp, 22, 0, 0, 0, 0, 0), (.ifCond .ne 7, 25, 29, 0, 0, 0, 0), am_dum, am_dum, (.iconst 1, 26, 0, 0, 0, 1, 0), (.goto 4, 29, 30, 0, 0, 0, 0), am_dum, am_dum, (.iconst 0, 30, 0, 0, 0, 0, 0), (.ireturn, 31, 1, 0, 0, 0, 0)]
def k_Wo_spread : List am_e := [
  (.lload_n 0, 1, 0, 0, 0, 0, 0), (.lstore_n 3, 2, 3, 0, 0, 0, 0), (.iconst 0, 3, 0, 0, 0, 0, 0), (.istore 5, 5, 5, 0, 0, 0, 0), am_dum, (.bipush 11, 7, 0, 0, 0, 11, 0), am_dum, (.istore 6, 9, 6, 0, 0, 0, 0), am_dum, 
  (.iload 6, 11, 6, 0, 0, 0, 0), am_dum, (.ifCond .lt 51, 14, 62, 0, 0, 0, 0), am_dum, am_dum, (.lload_n 3, 15, 3, 0, 0, 0, 0), (.ldc2_w 9, 18, 0, 0, 0, 0, 37), am_dum, am_dum, (.lrem, 19, 0, 0, 0, 0, 0), (.l2i, 20, 0, 0, 0, 0, 0), 
  (.istore 7, 22, 7, 0, 0, 0, 0), am_dum, (.iload 6, 24, 6, 0, 0, 0, 0), am_dum, (.aload_n 2, 25, 2, 0, 0, 0, 0), (.arraylength, 26, 0, 0, 0, 0, 0), (.if_icmp .ge 9, 29, 35, 0, 0, 0, 0), am_dum, am_dum, 
  (.aload_n 2, 30, 2, 0, 0, 0, 0), (.iload 6, 32, 6, 0, 0, 0, 0), am_dum, (.iload 7, 34, 7, 0, 0, 0, 0), am_dum, (.iastore, 35, 0, 0, 0, 0, 0), (.iload 5, 37, 5, 0, 0, 0, 0), am_dum, (.iload 7, 39, 7, 0, 0, 0, 0), am_dum, 
  (.ifCond .eq 7, 42, 46, 0, 0, 0, 0), am_dum, am_dum, (.iconst 1, 43, 0, 0, 0, 1, 0), (.goto 4, 46, 47, 0, 0, 0, 0), am_dum, am_dum, (.iconst 0, 47, 0, 0, 0, 0, 0), (.iadd, 48, 0, 0, 0, 0, 0), (.istore 5, 50, 5, 0, 0, 0, 0), 
  am_dum, (.lload_n 3, 51, 3, 0, 0, 0, 0), (.ldc2_w 9, 54, 0, 0, 0, 0, 37), am_dum, am_dum, (.ldiv, 55, 0, 0, 0, 0, 0), (.lstore_n 3, 56, 3, 0, 0, 0, 0), (.iinc 6 (-1), 59, 6, 0, 0, -1, 0), am_dum, am_dum, 
  (.goto (-50), 62, 9, 0, 0, 0, 0), am_dum, am_dum, (.iload 5, 64, 5, 0, 0, 0, 0), am_dum, (.ireturn, 65, 0, 0, 0, 0, 0)]
def k_TI_init : List am_e := [
  (.aload_n 0, 1, 0, 0, 0, 0, 0), (.invokespecial 1, 4, 0, 4, 0, 0, 0), am_dum, am_dum, (.aload_n 0, 5, 0, 0, 0, 0, 0), (.new 7, 8, 1, 0, 0, 0, 0), am_dum, am_dum, (.dup, 9, 0, 0, 0, 0, 0), (.invokespecial 9, 12, 62, 2, 0, 0, 0), 
  am_dum, am_dum, (.putfield 10, 15, 0, 0, 0, 0, 0), am_dum, am_dum, (.aload_n 0, 16, 0, 0, 0, 0, 0), (.iconst 3, 17, 0, 0, 0, 3, 0), (.anewarray 16, 20, 5, 0, 0, 0, 0), am_dum, am_dum, (.putfield 18, 23, 0, 1, 0, 0, 0), am_dum, 
  am_dum, (.iconst 0, 24, 0, 0, 0, 0, 0), (.istore_n 1, 25, 1, 0, 0, 0, 0), (.iload_n 1, 26, 1, 0, 0, 0, 0), (.aload_n 0, 27, 0, 0, 0, 0, 0), (.getfield 18, 30, 0, 1, 0, 0, 0), am_dum, am_dum, (.arraylength, 31, 0, 0, 0, 0, 0), 
  (.if_icmp .ge 23, 34, 54, 0, 0, 0, 0), am_dum, am_dum, (.aload_n 0, 35, 0, 0, 0, 0, 0), (.getfield 18, 38, 0, 1, 0, 0, 0), am_dum, am_dum, (.iload_n 1, 39, 1, 0, 0, 0, 0), (.new 16, 42, 2, 0, 0, 0, 0), am_dum, am_dum, 
  (.dup, 43, 0, 0, 0, 0, 0), (.iload_n 1, 44, 1, 0, 0, 0, 0), (.invokespecial 22, 47, 7, 1, 1, 0, 0), am_dum, am_dum, (.aastore, 48, 0, 0, 0, 0, 0), (.iinc 1 1, 51, 1, 0, 0, 1, 0), am_dum, am_dum, (.goto (-26), 54, 25, 0, 0, 0, 0), 
  am_dum, am_dum, (.aload_n 0, 55, 0, 0, 0, 0, 0), (.new 25, 58, 3, 0, 0, 0, 0), am_dum, am_dum, (.dup, 59, 0, 0, 0, 0, 0), (.invokespecial 27, 62, 41, 2, 0, 0, 0), am_dum, am_dum, (.putfield 28, 65, 0, 2, 0, 0, 0), am_dum, am_dum, 
  (.aload_n 0, 66, 0, 0, 0, 0, 0), (.new 32, 69, 4, 0, 0, 0, 0), am_dum, am_dum, (.dup, 70, 0, 0, 0, 0, 0), (.aload_n 0, 71, 0, 0, 0, 0, 0), (.getfield 10, 74, 0, 0, 0, 0, 0), am_dum, am_dum, 
  (.invokespecial 34, 77, 27, 1, 1, 0, 0), am_dum, am_dum, (.putfield 37, 80, 0, 3, 0, 0, 0), am_dum, am_dum, (.aload_n 0, 81, 0, 0, 0, 0, 0), (.new 41, 84, 6, 0, 0, 0, 0), am_dum, am_dum, (.dup, 85, 0, 0, 0, 0, 0), 
  (.invokespecial 43, 88, 0, 2, 0, 0, 0), am_dum, am_dum, (.putfield 44, 91, 0, 4, 0, 0, 0), am_dum, am_dum, (.aload_n 0, 92, 0, 0, 0, 0, 0), (.new 48, 95, 7, 0, 0, 0, 0), am_dum, am_dum, (.dup, 96, 0, 0, 0, 0, 0), 
  (.invokespecial 50, 99, 16, 2, 0, 0, 0), am_dum, am_dum, (.putfield 51, 102, 0, 5, 0, 0, 0), am_dum, am_dum, (.aload_n 0, 103, 0, 0, 0, 0, 0), (.lconst 0, 104, 0, 0, 0, 0, 0), (.putfield 57, 107, 0, 6, 0, 0, 0), am_dum, am_dum, 
  (.return_, 108, 0, 0, 0, 0, 0)]
def k_TI_type : List am_e := [
  (.iload_n 3, 1, 3, 0, 0, 0, 0), (.iconst 1, 2, 0, 0, 0, 1, 0), (.if_icmp .lt 9, 5, 11, 0, 0, 0, 0), am_dum, am_dum, (.iload_n 3, 6, 3, 0, 0, 0, 0), (.bipush 8, 8, 0, 0, 0, 8, 0), am_dum, (.if_icmp .le 5, 11, 13, 0, 0, 0, 0), 
  am_dum, am_dum, (.iconst (-1), 12, 0, 0, 0, -1, 0), (.ireturn, 13, 0, 0, 0, 0, 0), (.aload_n 0, 14, 0, 0, 0, 0, 0), (.getfield 10, 17, 0, 0, 0, 0, 0), am_dum, am_dum, (.lload_n 1, 18, 1, 0, 0, 0, 0), 
  (.iload_n 3, 19, 3, 0, 0, 0, 0), (.invokevirtual 61, 22, 64, 0, 2, 0, 0), am_dum, am_dum, (.ifCond .eq 13, 25, 35, 0, 0, 0, 0), am_dum, am_dum, (.aload_n 0, 26, 0, 0, 0, 0, 0), (.getfield 10, 29, 0, 0, 0, 0, 0), am_dum, am_dum, 
  (.invokevirtual 65, 32, 63, 0, 0, 0, 0), am_dum, am_dum, (.goto 5, 35, 37, 0, 0, 0, 0), am_dum, am_dum, (.bipush (-3), 37, 0, 0, 0, -3, 0), am_dum, (.ireturn, 38, 0, 0, 0, 0, 0)]
def k_TI_text : List am_e := [
  (.aload_n 0, 1, 0, 0, 0, 0, 0), (.iload_n 1, 2, 1, 0, 0, 0, 0), (.invokevirtual 69, 5, 100, 0, 1, 0, 0), am_dum, am_dum, (.astore_n 3, 6, 3, 0, 0, 0, 0), (.aload_n 3, 7, 3, 0, 0, 0, 0), (.ifnull 12, 10, 19, 0, 0, 0, 0), am_dum, 
  am_dum, (.iload_n 2, 11, 2, 0, 0, 0, 0), (.ifCond .lt 8, 14, 19, 0, 0, 0, 0), am_dum, am_dum, (.iload_n 2, 15, 2, 0, 0, 0, 0), (.iconst 4, 16, 0, 0, 0, 4, 0), (.if_icmp .lt 5, 19, 21, 0, 0, 0, 0), am_dum, am_dum, 
  (.iconst (-1), 20, 0, 0, 0, -1, 0), (.ireturn, 21, 0, 0, 0, 0, 0), (.aload_n 0, 22, 0, 0, 0, 0, 0), (.getfield 10, 25, 0, 0, 0, 0, 0), am_dum, am_dum, (.invokevirtual 73, 28, 69, 0, 0, 0, 0), am_dum, am_dum, 
  (.pop, 29, 0, 0, 0, 0, 0), (.aload_n 0, 30, 0, 0, 0, 0, 0), (.getfield 28, 33, 0, 2, 0, 0, 0), am_dum, am_dum, (.aload_n 3, 34, 3, 0, 0, 0, 0), (.iload_n 2, 35, 2, 0, 0, 0, 0), (.aload_n 0, 36, 0, 0, 0, 0, 0), 
  (.getfield 10, 39, 0, 0, 0, 0, 0), am_dum, am_dum, (.invokevirtual 76, 42, 42, 0, 3, 0, 0), am_dum, am_dum, (.istore 4, 44, 4, 0, 0, 0, 0), am_dum, (.aload_n 0, 45, 0, 0, 0, 0, 0), (.getfield 10, 48, 0, 0, 0, 0, 0), am_dum, 
  am_dum, (.invokevirtual 80, 51, 65, 0, 0, 0, 0), am_dum, am_dum, (.iload 4, 53, 4, 0, 0, 0, 0), am_dum, (.ireturn, 54, 0, 0, 0, 0, 0)]
def k_TI_remove : List am_e := [
  (.aload_n 0, 1, 0, 0, 0, 0, 0), (.getfield 28, 4, 0, 2, 0, 0, 0), am_dum, am_dum, (.iload_n 1, 5, 1, 0, 0, 0, 0), (.invokevirtual 83, 8, 43, 0, 1, 0, 0), am_dum, am_dum, (.ifCond .eq 7, 11, 15, 0, 0, 0, 0), am_dum, am_dum, 
  (.iconst 1, 12, 0, 0, 0, 1, 0), (.goto 4, 15, 16, 0, 0, 0, 0), am_dum, am_dum, (.iconst (-1), 16, 0, 0, 0, -1, 0), (.ireturn, 17, 0, 0, 0, 0, 0)]
def k_TI_stop : List am_e := [
  (.aload_n 0, 1, 0, 0, 0, 0, 0), (.iload_n 1, 2, 1, 0, 0, 0, 0), (.invokevirtual 69, 5, 100, 0, 1, 0, 0), am_dum, am_dum, (.astore_n 2, 6, 2, 0, 0, 0, 0), (.aload_n 2, 7, 2, 0, 0, 0, 0), (.ifnonnull 5, 10, 12, 0, 0, 0, 0), am_dum, 
  am_dum, (.iconst (-1), 11, 0, 0, 0, -1, 0), (.ireturn, 12, 0, 0, 0, 0, 0), (.aload_n 0, 13, 0, 0, 0, 0, 0), (.getfield 10, 16, 0, 0, 0, 0, 0), am_dum, am_dum, (.invokevirtual 73, 19, 69, 0, 0, 0, 0), am_dum, am_dum, 
  (.istore_n 3, 20, 3, 0, 0, 0, 0), (.iconst 0, 21, 0, 0, 0, 0, 0), (.istore 4, 23, 4, 0, 0, 0, 0), am_dum, (.iconst 0, 24, 0, 0, 0, 0, 0), (.istore 5, 26, 5, 0, 0, 0, 0), am_dum, (.iload 5, 28, 5, 0, 0, 0, 0), am_dum, 
  (.iload_n 3, 29, 3, 0, 0, 0, 0), (.if_icmp .ge 28, 32, 57, 0, 0, 0, 0), am_dum, am_dum, (.aload_n 2, 33, 2, 0, 0, 0, 0), (.aload_n 0, 34, 0, 0, 0, 0, 0), (.getfield 10, 37, 0, 0, 0, 0, 0), am_dum, am_dum, 
  (.iload 5, 39, 5, 0, 0, 0, 0), am_dum, (.invokevirtual 87, 42, 73, 0, 1, 0, 0), am_dum, am_dum, (.invokevirtual 91, 45, 10, 0, 1, 0, 0), am_dum, am_dum, (.ifCond .eq 6, 48, 51, 0, 0, 0, 0), am_dum, am_dum, 
  (.iinc 4 1, 51, 4, 0, 0, 1, 0), am_dum, am_dum, (.iinc 5 1, 54, 5, 0, 0, 1, 0), am_dum, am_dum, (.goto (-28), 57, 26, 0, 0, 0, 0), am_dum, am_dum, (.aload_n 0, 58, 0, 0, 0, 0, 0), (.getfield 10, 61, 0, 0, 0, 0, 0), am_dum, 
  am_dum, (.invokevirtual 80, 64, 65, 0, 0, 0, 0), am_dum, am_dum, (.aload_n 0, 65, 0, 0, 0, 0, 0), (.getfield 28, 68, 0, 2, 0, 0, 0), am_dum, am_dum, (.aload_n 2, 69, 2, 0, 0, 0, 0), (.invokevirtual 95, 72, 48, 0, 1, 0, 0), 
  am_dum, am_dum, (.iload 4, 74, 4, 0, 0, 0, 0), am_dum, (.ireturn, 75, 0, 0, 0, 0, 0)]
def k_TI_ending : List am_e := [
  (.aload_n 0, 1, 0, 0, 0, 0, 0), (.iload_n 1, 2, 1, 0, 0, 0, 0), (.invokevirtual 69, 5, 100, 0, 1, 0, 0), am_dum, am_dum, (.astore_n 2, 6, 2, 0, 0, 0, 0), (.aload_n 2, 7, 2, 0, 0, 0, 0), (.ifnonnull 5, 10, 12, 0, 0, 0, 0), am_dum, 
  am_dum, (.iconst (-1), 11, 0, 0, 0, -1, 0), (.ireturn, 12, 0, 0, 0, 0, 0), (.aload_n 0, 13, 0, 0, 0, 0, 0), (.getfield 10, 16, 0, 0, 0, 0, 0), am_dum, am_dum, (.invokevirtual 73, 19, 69, 0, 0, 0, 0), am_dum, am_dum, 
  (.istore_n 3, 20, 3, 0, 0, 0, 0), (.aload_n 0, 21, 0, 0, 0, 0, 0), (.getfield 10, 24, 0, 0, 0, 0, 0), am_dum, am_dum, (.iconst 0, 25, 0, 0, 0, 0, 0), (.invokevirtual 87, 28, 73, 0, 1, 0, 0), am_dum, am_dum, 
  (.lstore 4, 30, 4, 0, 0, 0, 0), am_dum, (.aload_n 0, 31, 0, 0, 0, 0, 0), (.getfield 10, 34, 0, 0, 0, 0, 0), am_dum, am_dum, (.iconst 1, 35, 0, 0, 0, 1, 0), (.invokevirtual 87, 38, 73, 0, 1, 0, 0), am_dum, am_dum, 
  (.lstore 6, 40, 6, 0, 0, 0, 0), am_dum, (.aload_n 0, 41, 0, 0, 0, 0, 0), (.getfield 10, 44, 0, 0, 0, 0, 0), am_dum, am_dum, (.invokevirtual 80, 47, 65, 0, 0, 0, 0), am_dum, am_dum, (.iload_n 3, 48, 3, 0, 0, 0, 0), 
  (.iconst 1, 49, 0, 0, 0, 1, 0), (.if_icmp .lt 8, 52, 57, 0, 0, 0, 0), am_dum, am_dum, (.iload_n 3, 53, 3, 0, 0, 0, 0), (.iconst 2, 54, 0, 0, 0, 2, 0), (.if_icmp .le 6, 57, 60, 0, 0, 0, 0), am_dum, am_dum, 
  (.bipush (-2), 59, 0, 0, 0, -2, 0), am_dum, (.ireturn, 60, 0, 0, 0, 0, 0), (.aload_n 2, 61, 2, 0, 0, 0, 0), (.lload 4, 63, 4, 0, 0, 0, 0), am_dum, (.lload 6, 65, 6, 0, 0, 0, 0), am_dum, (.invokevirtual 99, 68, 12, 0, 2, 0, 0), 
  am_dum, am_dum, (.ifCond .ne 6, 71, 74, 0, 0, 0, 0), am_dum, am_dum, (.bipush (-3), 73, 0, 0, 0, -3, 0), am_dum, (.ireturn, 74, 0, 0, 0, 0, 0), (.aload_n 0, 75, 0, 0, 0, 0, 0), (.getfield 28, 78, 0, 2, 0, 0, 0), am_dum, am_dum, 
  (.aload_n 2, 79, 2, 0, 0, 0, 0), (.invokevirtual 95, 82, 48, 0, 1, 0, 0), am_dum, am_dum, (.aload_n 2, 83, 2, 0, 0, 0, 0), (.invokevirtual 103, 86, 11, 0, 0, 0, 0), am_dum, am_dum, (.ireturn, 87, 0, 0, 0, 0, 0)]
def k_TI_stem : List am_e := [
  (.aload_n 0, 1, 0, 0, 0, 0, 0), (.iload_n 1, 2, 1, 0, 0, 0, 0), (.invokevirtual 69, 5, 100, 0, 1, 0, 0), am_dum, am_dum, (.astore_n 2, 6, 2, 0, 0, 0, 0), (.aload_n 2, 7, 2, 0, 0, 0, 0), (.ifnonnull 5, 10, 12, 0, 0, 0, 0), am_dum, 
  am_dum, (.iconst (-1), 11, 0, 0, 0, -1, 0), (.ireturn, 12, 0, 0, 0, 0, 0), (.aload_n 0, 13, 0, 0, 0, 0, 0), (.invokevirtual 106, 16, 101, 0, 0, 0, 0), am_dum, am_dum, (.lstore_n 3, 17, 3, 0, 0, 0, 0), 
  (.lload_n 3, 18, 3, 0, 0, 0, 0), (.lconst 0, 19, 0, 0, 0, 0, 0), (.lcmp, 20, 0, 0, 0, 0, 0), (.ifCond .ne 6, 23, 26, 0, 0, 0, 0), am_dum, am_dum, (.bipush (-2), 25, 0, 0, 0, -2, 0), am_dum, (.ireturn, 26, 0, 0, 0, 0, 0), 
  (.aload_n 0, 27, 0, 0, 0, 0, 0), (.aload_n 2, 28, 2, 0, 0, 0, 0), (.lload_n 3, 29, 3, 0, 0, 0, 0), (.invokevirtual 110, 32, 13, 0, 1, 0, 0), am_dum, am_dum, (.invokevirtual 114, 35, 102, 0, 1, 0, 0), am_dum, am_dum, 
  (.ireturn, 36, 0, 0, 0, 0, 0)]
def k_TI_ask : List am_e := [
  (.aload_n 0, 1, 0, 0, 0, 0, 0), (.iload_n 1, 2, 1, 0, 0, 0, 0), (.invokevirtual 69, 5, 100, 0, 1, 0, 0), am_dum, am_dum, (.astore_n 3, 6, 3, 0, 0, 0, 0), (.aload_n 3, 7, 3, 0, 0, 0, 0), (.ifnull 13, 10, 20, 0, 0, 0, 0), am_dum, 
  am_dum, (.iload_n 2, 11, 2, 0, 0, 0, 0), (.iconst (-1), 12, 0, 0, 0, -1, 0), (.if_icmp .lt 8, 15, 20, 0, 0, 0, 0), am_dum, am_dum, (.iload_n 2, 16, 2, 0, 0, 0, 0), (.iconst 4, 17, 0, 0, 0, 4, 0), 
  (.if_icmp .lt 5, 20, 22, 0, 0, 0, 0), am_dum, am_dum, (.iconst (-1), 21, 0, 0, 0, -1, 0), (.ireturn, 22, 0, 0, 0, 0, 0), (.aload_n 0, 23, 0, 0, 0, 0, 0), (.getfield 37, 26, 0, 3, 0, 0, 0), am_dum, am_dum, 
  (.invokevirtual 118, 29, 28, 0, 0, 0, 0), am_dum, am_dum, (.istore 4, 31, 4, 0, 0, 0, 0), am_dum, (.aload_n 0, 32, 0, 0, 0, 0, 0), (.getfield 10, 35, 0, 0, 0, 0, 0), am_dum, am_dum, (.invokevirtual 80, 38, 65, 0, 0, 0, 0), 
  am_dum, am_dum, (.iload 4, 40, 4, 0, 0, 0, 0), am_dum, (.iconst (-1), 41, 0, 0, 0, -1, 0), (.if_icmp .eq 9, 44, 50, 0, 0, 0, 0), am_dum, am_dum, (.bipush (-10), 46, 0, 0, 0, -10, 0), am_dum, (.iload 4, 48, 4, 0, 0, 0, 0), am_dum, 
  (.isub, 49, 0, 0, 0, 0, 0), (.ireturn, 50, 0, 0, 0, 0, 0), (.aload_n 0, 51, 0, 0, 0, 0, 0), (.getfield 37, 54, 0, 3, 0, 0, 0), am_dum, am_dum, (.aload_n 3, 55, 3, 0, 0, 0, 0), (.invokevirtual 121, 58, 34, 0, 1, 0, 0), am_dum, 
  am_dum, (.aload_n 0, 59, 0, 0, 0, 0, 0), (.getfield 37, 62, 0, 3, 0, 0, 0), am_dum, am_dum, (.aload_n 0, 63, 0, 0, 0, 0, 0), (.getfield 28, 66, 0, 2, 0, 0, 0), am_dum, am_dum, (.iload_n 1, 67, 1, 0, 0, 0, 0), 
  (.iload_n 2, 68, 2, 0, 0, 0, 0), (.invokevirtual 124, 71, 36, 0, 3, 0, 0), am_dum, am_dum, (.aload_n 0, 72, 0, 0, 0, 0, 0), (.getfield 44, 75, 0, 4, 0, 0, 0), am_dum, am_dum, (.invokevirtual 128, 78, 1, 0, 0, 0, 0), am_dum, 
  am_dum, (.iconst 0, 79, 0, 0, 0, 0, 0), (.istore 5, 81, 5, 0, 0, 0, 0), am_dum, (.iload 5, 83, 5, 0, 0, 0, 0), am_dum, (.bipush 40, 85, 0, 0, 0, 40, 0), am_dum, (.if_icmp .ge 61, 88, 146, 0, 0, 0, 0), am_dum, am_dum, 
  (.aload_n 0, 89, 0, 0, 0, 0, 0), (.getfield 28, 92, 0, 2, 0, 0, 0), am_dum, am_dum, (.iload 5, 94, 5, 0, 0, 0, 0), am_dum, (.iload_n 1, 95, 1, 0, 0, 0, 0), (.iload_n 2, 96, 2, 0, 0, 0, 0), 
  (.invokevirtual 129, 99, 45, 0, 3, 0, 0), am_dum, am_dum, (.ifCond .eq 41, 102, 140, 0, 0, 0, 0), am_dum, am_dum, (.aload_n 0, 103, 0, 0, 0, 0, 0), (.getfield 37, 106, 0, 3, 0, 0, 0), am_dum, am_dum, 
  (.aload_n 0, 107, 0, 0, 0, 0, 0), (.getfield 28, 110, 0, 2, 0, 0, 0), am_dum, am_dum, (.iload 5, 112, 5, 0, 0, 0, 0), am_dum, (.invokevirtual 133, 115, 39, 0, 2, 0, 0), am_dum, am_dum, (.ifCond .eq 25, 118, 140, 0, 0, 0, 0), 
  am_dum, am_dum, (.aload_n 0, 119, 0, 0, 0, 0, 0), (.getfield 44, 122, 0, 4, 0, 0, 0), am_dum, am_dum, (.iload 5, 124, 5, 0, 0, 0, 0), am_dum, (.aload_n 0, 125, 0, 0, 0, 0, 0), (.getfield 37, 128, 0, 3, 0, 0, 0), am_dum, am_dum, 
  (.aload_n 0, 129, 0, 0, 0, 0, 0), (.getfield 28, 132, 0, 2, 0, 0, 0), am_dum, am_dum, (.iload 5, 134, 5, 0, 0, 0, 0), am_dum, (.invokevirtual 137, 137, 38, 0, 2, 0, 0), am_dum, am_dum, (.invokevirtual 141, 140, 3, 0, 2, 0, 0), 
  am_dum, am_dum, (.iinc 5 1, 143, 5, 0, 0, 1, 0), am_dum, am_dum, (.goto (-62), 146, 81, 0, 0, 0, 0), am_dum, am_dum, (.aload_n 0, 147, 0, 0, 0, 0, 0), (.getfield 44, 150, 0, 4, 0, 0, 0), am_dum, am_dum, 
  (.invokevirtual 145, 153, 2, 0, 0, 0, 0), am_dum, am_dum, (.ireturn, 154, 0, 0, 0, 0, 0)]
def k_TI_answer : List am_e := [
  (.aload_n 0, 1, 0, 0, 0, 0, 0), (.getfield 44, 4, 0, 4, 0, 0, 0), am_dum, am_dum, (.iload_n 1, 5, 1, 0, 0, 0, 0), (.invokevirtual 148, 8, 5, 0, 1, 0, 0), am_dum, am_dum, (.ireturn, 9, 0, 0, 0, 0, 0)]
def k_TI_score : List am_e := [
  (.aload_n 0, 1, 0, 0, 0, 0, 0), (.getfield 44, 4, 0, 4, 0, 0, 0), am_dum, am_dum, (.iload_n 1, 5, 1, 0, 0, 0, 0), (.invokevirtual 152, 8, 6, 0, 1, 0, 0), am_dum, am_dum, (.lreturn, 9, 0, 0, 0, 0, 0)]
def k_TI_like : List am_e := [
  (.aload_n 0, 1, 0, 0, 0, 0, 0), (.iload_n 1, 2, 1, 0, 0, 0, 0), (.invokevirtual 69, 5, 100, 0, 1, 0, 0), am_dum, am_dum, (.ifnull 12, 8, 17, 0, 0, 0, 0), am_dum, am_dum, (.iload_n 2, 9, 2, 0, 0, 0, 0), 
  (.ifCond .lt 8, 12, 17, 0, 0, 0, 0), am_dum, am_dum, (.iload_n 2, 13, 2, 0, 0, 0, 0), (.iconst 3, 14, 0, 0, 0, 3, 0), (.if_icmp .le 5, 17, 19, 0, 0, 0, 0), am_dum, am_dum, (.iconst (-1), 18, 0, 0, 0, -1, 0), 
  (.ireturn, 19, 0, 0, 0, 0, 0), (.aload_n 0, 20, 0, 0, 0, 0, 0), (.invokevirtual 106, 23, 101, 0, 0, 0, 0), am_dum, am_dum, (.lstore_n 3, 24, 3, 0, 0, 0, 0), (.aload_n 0, 25, 0, 0, 0, 0, 0), (.getfield 51, 28, 0, 5, 0, 0, 0), 
  am_dum, am_dum, (.invokevirtual 155, 31, 17, 0, 0, 0, 0), am_dum, am_dum, (.lload_n 3, 32, 3, 0, 0, 0, 0), (.lconst 0, 33, 0, 0, 0, 0, 0), (.lcmp, 34, 0, 0, 0, 0, 0), (.ifCond .ne 6, 37, 40, 0, 0, 0, 0), am_dum, am_dum, 
  (.bipush (-2), 39, 0, 0, 0, -2, 0), am_dum, (.ireturn, 40, 0, 0, 0, 0, 0), (.aload_n 0, 41, 0, 0, 0, 0, 0), (.getfield 51, 44, 0, 5, 0, 0, 0), am_dum, am_dum, (.aload_n 0, 45, 0, 0, 0, 0, 0), (.getfield 28, 48, 0, 2, 0, 0, 0), 
  am_dum, am_dum, (.iload_n 1, 49, 1, 0, 0, 0, 0), (.lload_n 3, 50, 3, 0, 0, 0, 0), (.iload_n 2, 51, 2, 0, 0, 0, 0), (.invokevirtual 156, 54, 20, 0, 4, 0, 0), am_dum, am_dum, (.aload_n 0, 55, 0, 0, 0, 0, 0), 
  (.getfield 51, 58, 0, 5, 0, 0, 0), am_dum, am_dum, (.invokevirtual 160, 61, 18, 0, 0, 0, 0), am_dum, am_dum, (.ireturn, 62, 0, 0, 0, 0, 0)]
def k_TI_word : List am_e := [
  (.aload_n 0, 1, 0, 0, 0, 0, 0), (.getfield 51, 4, 0, 5, 0, 0, 0), am_dum, am_dum, (.iload_n 1, 5, 1, 0, 0, 0, 0), (.invokevirtual 161, 8, 19, 0, 1, 0, 0), am_dum, am_dum, (.lstore_n 2, 9, 2, 0, 0, 0, 0), 
  (.lload_n 2, 10, 2, 0, 0, 0, 0), (.lconst 0, 11, 0, 0, 0, 0, 0), (.lcmp, 12, 0, 0, 0, 0, 0), (.ifCond .ne 8, 15, 20, 0, 0, 0, 0), am_dum, am_dum, (.bipush (-2), 17, 0, 0, 0, -2, 0), am_dum, (.goto 8, 20, 25, 0, 0, 0, 0), am_dum, 
  am_dum, (.aload_n 0, 21, 0, 0, 0, 0, 0), (.lload_n 2, 22, 2, 0, 0, 0, 0), (.invokevirtual 114, 25, 102, 0, 1, 0, 0), am_dum, am_dum, (.ireturn, 26, 0, 0, 0, 0, 0)]
def k_TI_at : List am_e := [
  (.iload_n 1, 1, 1, 0, 0, 0, 0), (.ifCond .lt 25, 4, 26, 0, 0, 0, 0), am_dum, am_dum, (.iload_n 1, 5, 1, 0, 0, 0, 0), (.aload_n 0, 6, 0, 0, 0, 0, 0), (.getfield 57, 9, 0, 6, 0, 0, 0), am_dum, am_dum, 
  (.invokestatic 162, 12, 80, 3, 1, 0, 0), am_dum, am_dum, (.if_icmp .ge 14, 15, 26, 0, 0, 0, 0), am_dum, am_dum, (.aload_n 0, 16, 0, 0, 0, 0, 0), (.getfield 57, 19, 0, 6, 0, 0, 0), am_dum, am_dum, (.iload_n 1, 20, 1, 0, 0, 0, 0), 
  (.invokestatic 165, 23, 81, 3, 2, 0, 0), am_dum, am_dum, (.goto 4, 26, 27, 0, 0, 0, 0), am_dum, am_dum, (.iconst (-1), 27, 0, 0, 0, -1, 0), (.ireturn, 28, 0, 0, 0, 0, 0)]
def k_TI_place : List am_e := [
  (.aload_n 0, 1, 0, 0, 0, 0, 0), (.getfield 28, 4, 0, 2, 0, 0, 0), am_dum, am_dum, (.iload_n 1, 5, 1, 0, 0, 0, 0), (.iload_n 2, 6, 2, 0, 0, 0, 0), (.invokevirtual 169, 9, 49, 0, 2, 0, 0), am_dum, am_dum, 
  (.ifCond .ne 5, 12, 14, 0, 0, 0, 0), am_dum, am_dum, (.iconst (-1), 13, 0, 0, 0, -1, 0), (.ireturn, 14, 0, 0, 0, 0, 0), (.iload_n 3, 15, 3, 0, 0, 0, 0), (.ifCond .ne 13, 18, 28, 0, 0, 0, 0), am_dum, am_dum, 
  (.aload_n 0, 19, 0, 0, 0, 0, 0), (.getfield 28, 22, 0, 2, 0, 0, 0), am_dum, am_dum, (.iload_n 1, 23, 1, 0, 0, 0, 0), (.iload_n 2, 24, 2, 0, 0, 0, 0), (.invokevirtual 173, 27, 50, 0, 2, 0, 0), am_dum, am_dum, 
  (.ireturn, 28, 0, 0, 0, 0, 0), (.iload_n 3, 29, 3, 0, 0, 0, 0), (.iconst 1, 30, 0, 0, 0, 1, 0), (.if_icmp .ne 15, 33, 45, 0, 0, 0, 0), am_dum, am_dum, (.aload_n 0, 34, 0, 0, 0, 0, 0), (.getfield 28, 37, 0, 2, 0, 0, 0), am_dum, 
  am_dum, (.iload_n 1, 38, 1, 0, 0, 0, 0), (.iload_n 2, 39, 2, 0, 0, 0, 0), (.invokevirtual 177, 42, 51, 0, 2, 0, 0), am_dum, am_dum, (.goto 4, 45, 46, 0, 0, 0, 0), am_dum, am_dum, (.iconst (-1), 46, 0, 0, 0, -1, 0), 
  (.ireturn, 47, 0, 0, 0, 0, 0)]
def k_TI_texts : List am_e := [
  (.aload_n 0, 1, 0, 0, 0, 0, 0), (.getfield 28, 4, 0, 2, 0, 0, 0), am_dum, am_dum, (.invokevirtual 180, 7, 52, 0, 0, 0, 0), am_dum, am_dum, (.ireturn, 8, 0, 0, 0, 0, 0)]
def k_TI_stems : List am_e := [
  (.aload_n 0, 1, 0, 0, 0, 0, 0), (.iload_n 1, 2, 1, 0, 0, 0, 0), (.invokevirtual 69, 5, 100, 0, 1, 0, 0), am_dum, am_dum, (.ifnonnull 7, 8, 12, 0, 0, 0, 0), am_dum, am_dum, (.iconst (-1), 9, 0, 0, 0, -1, 0), 
  (.goto 11, 12, 20, 0, 0, 0, 0), am_dum, am_dum, (.aload_n 0, 13, 0, 0, 0, 0, 0), (.getfield 28, 16, 0, 2, 0, 0, 0), am_dum, am_dum, (.iload_n 1, 17, 1, 0, 0, 0, 0), (.invokevirtual 183, 20, 53, 0, 1, 0, 0), am_dum, am_dum, 
  (.ireturn, 21, 0, 0, 0, 0, 0)]
def k_TI_languageOf : List am_e := [
  (.iload_n 1, 1, 1, 0, 0, 0, 0), (.ifCond .lt 21, 4, 22, 0, 0, 0, 0), am_dum, am_dum, (.iload_n 1, 5, 1, 0, 0, 0, 0), (.aload_n 0, 6, 0, 0, 0, 0, 0), (.getfield 18, 9, 0, 1, 0, 0, 0), am_dum, am_dum, 
  (.arraylength, 10, 0, 0, 0, 0, 0), (.if_icmp .ge 12, 13, 22, 0, 0, 0, 0), am_dum, am_dum, (.aload_n 0, 14, 0, 0, 0, 0, 0), (.getfield 18, 17, 0, 1, 0, 0, 0), am_dum, am_dum, (.iload_n 1, 18, 1, 0, 0, 0, 0), 
  (.aaload, 19, 0, 0, 0, 0, 0), (.goto 4, 22, 23, 0, 0, 0, 0), am_dum, am_dum, (.aconst_null, 23, 0, 0, 0, 0, 0), (.areturn, 24, 0, 0, 0, 0, 0)]
def k_TI_takeFirstWord : List am_e := [
  (.aload_n 0, 1, 0, 0, 0, 0, 0), (.getfield 10, 4, 0, 0, 0, 0, 0), am_dum, am_dum, (.invokevirtual 73, 7, 69, 0, 0, 0, 0), am_dum, am_dum, (.pop, 8, 0, 0, 0, 0, 0), (.aload_n 0, 9, 0, 0, 0, 0, 0), 
  (.getfield 10, 12, 0, 0, 0, 0, 0), am_dum, am_dum, (.iconst 0, 13, 0, 0, 0, 0, 0), (.invokevirtual 87, 16, 73, 0, 1, 0, 0), am_dum, am_dum, (.lstore_n 1, 17, 1, 0, 0, 0, 0), (.aload_n 0, 18, 0, 0, 0, 0, 0), 
  (.getfield 10, 21, 0, 0, 0, 0, 0), am_dum, am_dum, (.invokevirtual 80, 24, 65, 0, 0, 0, 0), am_dum, am_dum, (.lload_n 1, 25, 1, 0, 0, 0, 0), (.lreturn, 26, 0, 0, 0, 0, 0)]
def k_TI_tell : List am_e := [
  (.aload_n 0, 1, 0, 0, 0, 0, 0), (.lload_n 1, 2, 1, 0, 0, 0, 0), (.putfield 57, 5, 0, 6, 0, 0, 0), am_dum, am_dum, (.lload_n 1, 6, 1, 0, 0, 0, 0), (.invokestatic 162, 9, 80, 3, 1, 0, 0), am_dum, am_dum, 
  (.ireturn, 10, 0, 0, 0, 0, 0)]
def k_Mo_init : List am_e := [
  (.aload_n 0, 1, 0, 0, 0, 0, 0), (.invokespecial 1, 4, 0, 4, 0, 0, 0), am_dum, am_dum, (.aload_n 0, 5, 0, 0, 0, 0, 0), (.ldc 7, 7, 0, 0, 0, 72408, 0), am_dum, (.newarray .byte, 9, 1, 0, 0, 0, 0), am_dum, 
  (.putfield 8, 12, 8, 0, 0, 0, 0), am_dum, am_dum, (.aload_n 0, 13, 0, 0, 0, 0, 0), (.sipush 6034, 16, 0, 0, 0, 6034, 0), am_dum, am_dum, (.newarray .int, 18, 0, 0, 0, 0, 0), am_dum, (.putfield 14, 21, 8, 1, 0, 0, 0), am_dum, 
  am_dum, (.aload_n 0, 22, 0, 0, 0, 0, 0), (.bipush 96, 24, 0, 0, 0, 96, 0), am_dum, (.newarray .byte, 26, 1, 0, 0, 0, 0), am_dum, (.putfield 18, 29, 8, 2, 0, 0, 0), am_dum, am_dum, (.aload_n 0, 30, 0, 0, 0, 0, 0), 
  (.bipush 40, 32, 0, 0, 0, 40, 0), am_dum, (.newarray .int, 34, 0, 0, 0, 0, 0), am_dum, (.putfield 21, 37, 8, 4, 0, 0, 0), am_dum, am_dum, (.aload_n 0, 38, 0, 0, 0, 0, 0), (.bipush 40, 40, 0, 0, 0, 40, 0), am_dum, 
  (.newarray .int, 42, 0, 0, 0, 0, 0), am_dum, (.putfield 24, 45, 8, 5, 0, 0, 0), am_dum, am_dum, (.aload_n 0, 46, 0, 0, 0, 0, 0), (.bipush 40, 48, 0, 0, 0, 40, 0), am_dum, (.newarray .int, 50, 0, 0, 0, 0, 0), am_dum, 
  (.putfield 27, 53, 8, 6, 0, 0, 0), am_dum, am_dum, (.aload_n 0, 54, 0, 0, 0, 0, 0), (.sipush 1920, 57, 0, 0, 0, 1920, 0), am_dum, am_dum, (.newarray .int, 59, 0, 0, 0, 0, 0), am_dum, (.putfield 30, 62, 8, 7, 0, 0, 0), am_dum, 
  am_dum, (.aload_n 0, 63, 0, 0, 0, 0, 0), (.sipush 1920, 66, 0, 0, 0, 1920, 0), am_dum, am_dum, (.newarray .int, 68, 0, 0, 0, 0, 0), am_dum, (.putfield 33, 71, 8, 8, 0, 0, 0), am_dum, am_dum, (.aload_n 0, 72, 0, 0, 0, 0, 0), 
  (.sipush 2000, 75, 0, 0, 0, 2000, 0), am_dum, am_dum, (.newarray .int, 77, 0, 0, 0, 0, 0), am_dum, (.putfield 36, 80, 8, 11, 0, 0, 0), am_dum, am_dum, (.aload_n 0, 81, 0, 0, 0, 0, 0), (.iconst 3, 82, 0, 0, 0, 3, 0), 
  (.newarray .int, 84, 0, 0, 0, 0, 0), am_dum, (.putfield 39, 87, 8, 13, 0, 0, 0), am_dum, am_dum, (.aload_n 0, 88, 0, 0, 0, 0, 0), (.bipush 48, 90, 0, 0, 0, 48, 0), am_dum, (.newarray .int, 92, 0, 0, 0, 0, 0), am_dum, 
  (.putfield 42, 95, 8, 15, 0, 0, 0), am_dum, am_dum, (.aload_n 0, 96, 0, 0, 0, 0, 0), (.bipush 48, 98, 0, 0, 0, 48, 0), am_dum, (.newarray .int, 100, 0, 0, 0, 0, 0), am_dum, (.putfield 45, 103, 8, 16, 0, 0, 0), am_dum, am_dum, 
  (.aload_n 0, 104, 0, 0, 0, 0, 0), (.bipush 96, 106, 0, 0, 0, 96, 0), am_dum, (.newarray .int, 108, 0, 0, 0, 0, 0), am_dum, (.putfield 48, 111, 8, 17, 0, 0, 0), am_dum, am_dum, (.aload_n 0, 112, 0, 0, 0, 0, 0), 
  (.bipush 96, 114, 0, 0, 0, 96, 0), am_dum, (.newarray .int, 116, 0, 0, 0, 0, 0), am_dum, (.putfield 51, 119, 8, 18, 0, 0, 0), am_dum, am_dum, (.aload_n 0, 120, 0, 0, 0, 0, 0), (.bipush 96, 122, 0, 0, 0, 96, 0), am_dum, 
  (.newarray .int, 124, 0, 0, 0, 0, 0), am_dum, (.putfield 54, 127, 8, 19, 0, 0, 0), am_dum, am_dum, (.aload_n 0, 128, 0, 0, 0, 0, 0), (.bipush 96, 130, 0, 0, 0, 96, 0), am_dum, (.newarray .int, 132, 0, 0, 0, 0, 0), am_dum, 
  (.putfield 57, 135, 8, 20, 0, 0, 0), am_dum, am_dum, (.aload_n 0, 136, 0, 0, 0, 0, 0), (.bipush 40, 138, 0, 0, 0, 40, 0), am_dum, (.newarray .int, 140, 0, 0, 0, 0, 0), am_dum, (.putfield 60, 143, 8, 25, 0, 0, 0), am_dum, am_dum, 
  (.aload_n 0, 144, 0, 0, 0, 0, 0), (.bipush 40, 146, 0, 0, 0, 40, 0), am_dum, (.newarray .long, 148, 3, 0, 0, 0, 0), am_dum, (.putfield 63, 151, 8, 26, 0, 0, 0), am_dum, am_dum, (.aload_n 0, 152, 0, 0, 0, 0, 0), 
  (.sipush 1920, 155, 0, 0, 0, 1920, 0), am_dum, am_dum, (.newarray .int, 157, 0, 0, 0, 0, 0), am_dum, (.putfield 67, 160, 8, 28, 0, 0, 0), am_dum, am_dum, (.aload_n 0, 161, 0, 0, 0, 0, 0), (.bipush 12, 163, 0, 0, 0, 12, 0), 
  am_dum, (.newarray .byte, 165, 1, 0, 0, 0, 0), am_dum, (.putfield 70, 168, 8, 30, 0, 0, 0), am_dum, am_dum, (.aload_n 0, 169, 0, 0, 0, 0, 0), (.sipush 169, 172, 0, 0, 0, 169, 0), am_dum, am_dum, 
  (.newarray .int, 174, 0, 0, 0, 0, 0), am_dum, (.putfield 73, 177, 8, 32, 0, 0, 0), am_dum, am_dum, (.return_, 178, 0, 0, 0, 0, 0)]
def k_Mo_byteOf : List am_e := [
  (.aload_n 0, 1, 0, 0, 0, 0, 0), (.getfield 8, 4, 8, 0, 0, 0, 0), am_dum, am_dum, (.bipush 12, 6, 0, 0, 0, 12, 0), am_dum, (.iload_n 1, 7, 1, 0, 0, 0, 0), (.imul, 8, 0, 0, 0, 0, 0), (.iload_n 2, 9, 2, 0, 0, 0, 0), 
  (.iadd, 10, 0, 0, 0, 0, 0), (.baload, 11, 0, 0, 0, 0, 0), (.ireturn, 12, 0, 0, 0, 0, 0)]
def k_Mo_same : List am_e := [
  (.aload_n 0, 1, 0, 0, 0, 0, 0), (.getfield 14, 4, 8, 1, 0, 0, 0), am_dum, am_dum, (.iload_n 1, 5, 1, 0, 0, 0, 0), (.iaload, 6, 0, 0, 0, 0, 0), (.aload_n 0, 7, 0, 0, 0, 0, 0), (.getfield 14, 10, 8, 1, 0, 0, 0), am_dum, am_dum, 
  (.iload_n 2, 11, 2, 0, 0, 0, 0), (.iaload, 12, 0, 0, 0, 0, 0), (.if_icmp .ne 7, 15, 19, 0, 0, 0, 0), am_dum, am_dum, (.iconst 1, 16, 0, 0, 0, 1, 0), (.goto 4, 19, 20, 0, 0, 0, 0), am_dum, am_dum, (.iconst 0, 20, 0, 0, 0, 0, 0), 
  (.istore_n 3, 21, 3, 0, 0, 0, 0), (.iconst 0, 22, 0, 0, 0, 0, 0), (.istore 4, 24, 4, 0, 0, 0, 0), am_dum, (.iload 4, 26, 4, 0, 0, 0, 0), am_dum, (.aload_n 0, 27, 0, 0, 0, 0, 0), (.getfield 14, 30, 8, 1, 0, 0, 0), am_dum, am_dum, 
  (.iload_n 1, 31, 1, 0, 0, 0, 0), (.iaload, 32, 0, 0, 0, 0, 0), (.if_icmp .ge 36, 35, 68, 0, 0, 0, 0), am_dum, am_dum, (.iload_n 3, 36, 3, 0, 0, 0, 0), (.ifCond .eq 32, 39, 68, 0, 0, 0, 0), am_dum, am_dum, 
  (.aload_n 0, 40, 0, 0, 0, 0, 0), (.iload_n 1, 41, 1, 0, 0, 0, 0), (.iload 4, 43, 4, 0, 0, 0, 0), am_dum, (.invokevirtual 76, 46, 104, 0, 2, 0, 0), am_dum, am_dum, (.aload_n 0, 47, 0, 0, 0, 0, 0), (.iload_n 2, 48, 2, 0, 0, 0, 0), 
  (.iload 4, 50, 4, 0, 0, 0, 0), am_dum, (.invokevirtual 76, 53, 104, 0, 2, 0, 0), am_dum, am_dum, (.if_icmp .ne 7, 56, 60, 0, 0, 0, 0), am_dum, am_dum, (.iconst 1, 57, 0, 0, 0, 1, 0), (.goto 4, 60, 61, 0, 0, 0, 0), am_dum, am_dum, 
  (.iconst 0, 61, 0, 0, 0, 0, 0), (.istore_n 3, 62, 3, 0, 0, 0, 0), (.iinc 4 1, 65, 4, 0, 0, 1, 0), am_dum, am_dum, (.goto (-41), 68, 24, 0, 0, 0, 0), am_dum, am_dum, (.iload_n 3, 69, 3, 0, 0, 0, 0), (.ireturn, 70, 1, 0, 0, 0, 0)]
def k_Mo_beginsSo : List am_e := [
  (.aload_n 0, 1, 0, 0, 0, 0, 0), (.getfield 14, 4, 8, 1, 0, 0, 0), am_dum, am_dum, (.iload_n 1, 5, 1, 0, 0, 0, 0), (.iaload, 6, 0, 0, 0, 0, 0), (.aload_n 0, 7, 0, 0, 0, 0, 0), (.getfield 14, 10, 8, 1, 0, 0, 0), am_dum, am_dum, 
  (.iload_n 2, 11, 2, 0, 0, 0, 0), (.iaload, 12, 0, 0, 0, 0, 0), (.if_icmp .lt 7, 15, 19, 0, 0, 0, 0), am_dum, am_dum, (.iconst 1, 16, 0, 0, 0, 1, 0), (.goto 4, 19, 20, 0, 0, 0, 0), am_dum, am_dum, (.iconst 0, 20, 0, 0, 0, 0, 0), 
  (.istore_n 3, 21, 3, 0, 0, 0, 0), (.iconst 0, 22, 0, 0, 0, 0, 0), (.istore 4, 24, 4, 0, 0, 0, 0), am_dum, (.iload 4, 26, 4, 0, 0, 0, 0), am_dum, (.aload_n 0, 27, 0, 0, 0, 0, 0), (.getfield 14, 30, 8, 1, 0, 0, 0), am_dum, am_dum, 
  (.iload_n 2, 31, 2, 0, 0, 0, 0), (.iaload, 32, 0, 0, 0, 0, 0), (.if_icmp .ge 36, 35, 68, 0, 0, 0, 0), am_dum, am_dum, (.iload_n 3, 36, 3, 0, 0, 0, 0), (.ifCond .eq 32, 39, 68, 0, 0, 0, 0), am_dum, am_dum, 
  (.aload_n 0, 40, 0, 0, 0, 0, 0), (.iload_n 1, 41, 1, 0, 0, 0, 0), (.iload 4, 43, 4, 0, 0, 0, 0), am_dum, (.invokevirtual 76, 46, 104, 0, 2, 0, 0), am_dum, am_dum, (.aload_n 0, 47, 0, 0, 0, 0, 0), (.iload_n 2, 48, 2, 0, 0, 0, 0), 
  (.iload 4, 50, 4, 0, 0, 0, 0), am_dum, (.invokevirtual 76, 53, 104, 0, 2, 0, 0), am_dum, am_dum, (.if_icmp .ne 7, 56, 60, 0, 0, 0, 0), am_dum, am_dum, (.iconst 1, 57, 0, 0, 0, 1, 0), (.goto 4, 60, 61, 0, 0, 0, 0), am_dum, am_dum, 
  (.iconst 0, 61, 0, 0, 0, 0, 0), (.istore_n 3, 62, 3, 0, 0, 0, 0), (.iinc 4 1, 65, 4, 0, 0, 1, 0), am_dum, am_dum, (.goto (-41), 68, 24, 0, 0, 0, 0), am_dum, am_dum, (.iload_n 3, 69, 3, 0, 0, 0, 0), (.ireturn, 70, 1, 0, 0, 0, 0)]
def k_Mo_add : List am_e := [
  (.aload_n 0, 1, 0, 0, 0, 0, 0), (.getfield 14, 4, 8, 1, 0, 0, 0), am_dum, am_dum, (.iload_n 1, 5, 1, 0, 0, 0, 0), (.iaload, 6, 0, 0, 0, 0, 0), (.bipush 12, 8, 0, 0, 0, 12, 0), am_dum, (.if_icmp .ne 4, 11, 12, 0, 0, 0, 0), am_dum, 
  am_dum, (.return_, 12, 0, 0, 0, 0, 0), (.aload_n 0, 13, 0, 0, 0, 0, 0), (.getfield 8, 16, 8, 0, 0, 0, 0), am_dum, am_dum, (.bipush 12, 18, 0, 0, 0, 12, 0), am_dum, (.iload_n 1, 19, 1, 0, 0, 0, 0), (.imul, 20, 0, 0, 0, 0, 0), 
  (.aload_n 0, 21, 0, 0, 0, 0, 0), (.getfield 14, 24, 8, 1, 0, 0, 0), am_dum, am_dum, (.iload_n 1, 25, 1, 0, 0, 0, 0), (.iaload, 26, 0, 0, 0, 0, 0), (.iadd, 27, 0, 0, 0, 0, 0), (.iload_n 2, 28, 2, 0, 0, 0, 0), 
  (.i2b, 29, 0, 0, 0, 0, 0), (.bastore, 30, 0, 0, 0, 0, 0), (.aload_n 0, 31, 0, 0, 0, 0, 0), (.getfield 14, 34, 8, 1, 0, 0, 0), am_dum, am_dum, (.iload_n 1, 35, 1, 0, 0, 0, 0), (.dup2, 36, 0, 0, 0, 0, 0), 
  (.iaload, 37, 0, 0, 0, 0, 0), (.iconst 1, 38, 0, 0, 0, 1, 0), (.iadd, 39, 0, 0, 0, 0, 0), (.iastore, 40, 0, 0, 0, 0, 0), (.return_, 41, 0, 0, 0, 0, 0)]
def k_Mo_copy : List am_e := [
  (.aload_n 0, 1, 0, 0, 0, 0, 0), (.getfield 14, 4, 8, 1, 0, 0, 0), am_dum, am_dum, (.iload_n 2, 5, 2, 0, 0, 0, 0), (.iconst 0, 6, 0, 0, 0, 0, 0), (.iastore, 7, 0, 0, 0, 0, 0), (.iconst 0, 8, 0, 0, 0, 0, 0), 
  (.istore_n 3, 9, 3, 0, 0, 0, 0), (.iload_n 3, 10, 3, 0, 0, 0, 0), (.aload_n 0, 11, 0, 0, 0, 0, 0), (.getfield 14, 14, 8, 1, 0, 0, 0), am_dum, am_dum, (.iload_n 1, 15, 1, 0, 0, 0, 0), (.iaload, 16, 0, 0, 0, 0, 0), 
  (.if_icmp .ge 20, 19, 36, 0, 0, 0, 0), am_dum, am_dum, (.aload_n 0, 20, 0, 0, 0, 0, 0), (.iload_n 2, 21, 2, 0, 0, 0, 0), (.aload_n 0, 22, 0, 0, 0, 0, 0), (.iload_n 1, 23, 1, 0, 0, 0, 0), (.iload_n 3, 24, 3, 0, 0, 0, 0), 
  (.invokevirtual 76, 27, 104, 0, 2, 0, 0), am_dum, am_dum, (.invokevirtual 80, 30, 107, 0, 2, 0, 0), am_dum, am_dum, (.iinc 3 1, 33, 3, 0, 0, 1, 0), am_dum, am_dum, (.goto (-24), 36, 9, 0, 0, 0, 0), am_dum, am_dum, 
  (.return_, 37, 0, 0, 0, 0, 0)]
def k_Mo_letter : List am_e := [
  (.iload_n 0, 1, 0, 0, 0, 0, 0), (.bipush 65, 3, 0, 0, 0, 65, 0), am_dum, (.if_icmp .lt 14, 6, 17, 0, 0, 0, 0), am_dum, am_dum, (.iload_n 0, 7, 0, 0, 0, 0, 0), (.bipush 90, 9, 0, 0, 0, 90, 0), am_dum, 
  (.if_icmp .gt 8, 12, 17, 0, 0, 0, 0), am_dum, am_dum, (.iload_n 0, 13, 0, 0, 0, 0, 0), (.bipush 32, 15, 0, 0, 0, 32, 0), am_dum, (.iadd, 16, 0, 0, 0, 0, 0), (.ireturn, 17, 0, 0, 0, 0, 0), (.iload_n 0, 18, 0, 0, 0, 0, 0), 
  (.bipush 97, 20, 0, 0, 0, 97, 0), am_dum, (.if_icmp .lt 9, 23, 29, 0, 0, 0, 0), am_dum, am_dum, (.iload_n 0, 24, 0, 0, 0, 0, 0), (.bipush 122, 26, 0, 0, 0, 122, 0), am_dum, (.if_icmp .le 15, 29, 41, 0, 0, 0, 0), am_dum, am_dum, 
  (.iload_n 0, 30, 0, 0, 0, 0, 0), (.bipush 48, 32, 0, 0, 0, 48, 0), am_dum, (.if_icmp .lt 13, 35, 45, 0, 0, 0, 0), am_dum, am_dum, (.iload_n 0, 36, 0, 0, 0, 0, 0), (.bipush 57, 38, 0, 0, 0, 57, 0), am_dum, 
  (.if_icmp .gt 7, 41, 45, 0, 0, 0, 0), am_dum, am_dum, (.iload_n 0, 42, 0, 0, 0, 0, 0), (.goto 4, 45, 46, 0, 0, 0, 0), am_dum, am_dum, (.iconst 0, 46, 0, 0, 0, 0, 0), (.ireturn, 47, 0, 0, 0, 0, 0)]
def k_Mo_type : List am_e := [
  (.iload_n 3, 1, 3, 0, 0, 0, 0), (.iconst 1, 2, 0, 0, 0, 1, 0), (.if_icmp .lt 9, 5, 11, 0, 0, 0, 0), am_dum, am_dum, (.iload_n 3, 6, 3, 0, 0, 0, 0), (.bipush 8, 8, 0, 0, 0, 8, 0), am_dum, (.if_icmp .le 5, 11, 13, 0, 0, 0, 0), 
  am_dum, am_dum, (.iconst (-1), 12, 0, 0, 0, -1, 0), (.ireturn, 13, 0, 0, 0, 0, 0), (.aload_n 0, 14, 0, 0, 0, 0, 0), (.getfield 84, 17, 8, 3, 0, 0, 0), am_dum, am_dum, (.iload_n 3, 18, 3, 0, 0, 0, 0), (.iadd, 19, 0, 0, 0, 0, 0), 
  (.bipush 96, 21, 0, 0, 0, 96, 0), am_dum, (.if_icmp .le 6, 24, 27, 0, 0, 0, 0), am_dum, am_dum, (.bipush (-3), 26, 0, 0, 0, -3, 0), am_dum, (.ireturn, 27, 0, 0, 0, 0, 0), (.iload_n 3, 28, 3, 0, 0, 0, 0), 
  (.iconst 1, 29, 0, 0, 0, 1, 0), (.isub, 30, 0, 0, 0, 0, 0), (.istore 4, 32, 4, 0, 0, 0, 0), am_dum, (.iload 4, 34, 4, 0, 0, 0, 0), am_dum, (.ifCond .lt 37, 37, 71, 0, 0, 0, 0), am_dum, am_dum, (.aload_n 0, 38, 0, 0, 0, 0, 0), 
  (.getfield 18, 41, 8, 2, 0, 0, 0), am_dum, am_dum, (.aload_n 0, 42, 0, 0, 0, 0, 0), (.getfield 84, 45, 8, 3, 0, 0, 0), am_dum, am_dum, (.lload_n 1, 46, 1, 0, 0, 0, 0), (.bipush 8, 48, 0, 0, 0, 8, 0), am_dum, 
  (.iload 4, 50, 4, 0, 0, 0, 0), am_dum, (.imul, 51, 0, 0, 0, 0, 0), (.lshr, 52, 0, 0, 0, 0, 0), (.l2i, 53, 0, 0, 0, 0, 0), (.i2b, 54, 0, 0, 0, 0, 0), (.bastore, 55, 0, 0, 0, 0, 0), (.aload_n 0, 56, 0, 0, 0, 0, 0), 
  (.dup, 57, 0, 0, 0, 0, 0), (.getfield 84, 60, 8, 3, 0, 0, 0), am_dum, am_dum, (.iconst 1, 61, 0, 0, 0, 1, 0), (.iadd, 62, 0, 0, 0, 0, 0), (.putfield 84, 65, 8, 3, 0, 0, 0), am_dum, am_dum, (.iinc 4 (-1), 68, 4, 0, 0, -1, 0), 
  am_dum, am_dum, (.goto (-36), 71, 32, 0, 0, 0, 0), am_dum, am_dum, (.aload_n 0, 72, 0, 0, 0, 0, 0), (.getfield 84, 75, 8, 3, 0, 0, 0), am_dum, am_dum, (.ireturn, 76, 0, 0, 0, 0, 0)]
def k_Mo_readWords : List am_e := [
  (.aload_n 0, 1, 0, 0, 0, 0, 0), (.iconst 0, 2, 0, 0, 0, 0, 0), (.putfield 88, 5, 8, 14, 0, 0, 0), am_dum, am_dum, (.iconst 0, 6, 0, 0, 0, 0, 0), (.istore_n 1, 7, 1, 0, 0, 0, 0), (.iconst 0, 8, 0, 0, 0, 0, 0), 
  (.istore_n 2, 9, 2, 0, 0, 0, 0), (.iload_n 2, 10, 2, 0, 0, 0, 0), (.aload_n 0, 11, 0, 0, 0, 0, 0), (.getfield 84, 14, 8, 3, 0, 0, 0), am_dum, am_dum, (.if_icmp .ge 118, 17, 132, 0, 0, 0, 0), am_dum, am_dum, 
  (.aload_n 0, 18, 0, 0, 0, 0, 0), (.getfield 18, 21, 8, 2, 0, 0, 0), am_dum, am_dum, (.iload_n 2, 22, 2, 0, 0, 0, 0), (.baload, 23, 0, 0, 0, 0, 0), (.invokestatic 91, 26, 109, 3, 1, 0, 0), am_dum, am_dum, 
  (.istore_n 3, 27, 3, 0, 0, 0, 0), (.iload_n 3, 28, 3, 0, 0, 0, 0), (.ifCond .eq 51, 31, 79, 0, 0, 0, 0), am_dum, am_dum, (.iload_n 1, 32, 1, 0, 0, 0, 0), (.ifCond .ne 47, 35, 79, 0, 0, 0, 0), am_dum, am_dum, 
  (.aload_n 0, 36, 0, 0, 0, 0, 0), (.getfield 14, 39, 8, 1, 0, 0, 0), am_dum, am_dum, (.sipush 3968, 42, 0, 0, 0, 3968, 0), am_dum, am_dum, (.aload_n 0, 43, 0, 0, 0, 0, 0), (.getfield 88, 46, 8, 14, 0, 0, 0), am_dum, am_dum, 
  (.iadd, 47, 0, 0, 0, 0, 0), (.iconst 0, 48, 0, 0, 0, 0, 0), (.iastore, 49, 0, 0, 0, 0, 0), (.aload_n 0, 50, 0, 0, 0, 0, 0), (.getfield 42, 53, 8, 15, 0, 0, 0), am_dum, am_dum, (.aload_n 0, 54, 0, 0, 0, 0, 0), 
  (.getfield 88, 57, 8, 14, 0, 0, 0), am_dum, am_dum, (.iload_n 2, 58, 2, 0, 0, 0, 0), (.iastore, 59, 0, 0, 0, 0, 0), (.aload_n 0, 60, 0, 0, 0, 0, 0), (.getfield 45, 63, 8, 16, 0, 0, 0), am_dum, am_dum, 
  (.aload_n 0, 64, 0, 0, 0, 0, 0), (.getfield 88, 67, 8, 14, 0, 0, 0), am_dum, am_dum, (.iconst 0, 68, 0, 0, 0, 0, 0), (.iastore, 69, 0, 0, 0, 0, 0), (.aload_n 0, 70, 0, 0, 0, 0, 0), (.dup, 71, 0, 0, 0, 0, 0), 
  (.getfield 88, 74, 8, 14, 0, 0, 0), am_dum, am_dum, (.iconst 1, 75, 0, 0, 0, 1, 0), (.iadd, 76, 0, 0, 0, 0, 0), (.putfield 88, 79, 8, 14, 0, 0, 0), am_dum, am_dum, (.iload_n 3, 80, 3, 0, 0, 0, 0), 
  (.ifCond .eq 7, 83, 87, 0, 0, 0, 0), am_dum, am_dum, (.iconst 1, 84, 0, 0, 0, 1, 0), (.goto 4, 87, 88, 0, 0, 0, 0), am_dum, am_dum, (.iconst 0, 88, 0, 0, 0, 0, 0), (.istore_n 1, 89, 1, 0, 0, 0, 0), 
  (.iload_n 1, 90, 1, 0, 0, 0, 0), (.ifCond .ne 6, 93, 96, 0, 0, 0, 0), am_dum, am_dum, (.goto 33, 96, 126, 0, 0, 0, 0), am_dum, am_dum, (.aload_n 0, 97, 0, 0, 0, 0, 0), (.sipush 3968, 100, 0, 0, 0, 3968, 0), am_dum, am_dum, 
  (.aload_n 0, 101, 0, 0, 0, 0, 0), (.getfield 88, 104, 8, 14, 0, 0, 0), am_dum, am_dum, (.iadd, 105, 0, 0, 0, 0, 0), (.iconst 1, 106, 0, 0, 0, 1, 0), (.isub, 107, 0, 0, 0, 0, 0), (.iload_n 3, 108, 3, 0, 0, 0, 0), 
  (.invokevirtual 80, 111, 107, 0, 2, 0, 0), am_dum, am_dum, (.aload_n 0, 112, 0, 0, 0, 0, 0), (.getfield 45, 115, 8, 16, 0, 0, 0), am_dum, am_dum, (.aload_n 0, 116, 0, 0, 0, 0, 0), (.getfield 88, 119, 8, 14, 0, 0, 0), am_dum, 
  am_dum, (.iconst 1, 120, 0, 0, 0, 1, 0), (.isub, 121, 0, 0, 0, 0, 0), (.dup2, 122, 0, 0, 0, 0, 0), (.iaload, 123, 0, 0, 0, 0, 0), (.iconst 1, 124, 0, 0, 0, 1, 0), (.iadd, 125, 0, 0, 0, 0, 0), (.iastore, 126, 0, 0, 0, 0, 0), 
  (.iinc 2 1, 129, 2, 0, 0, 1, 0), am_dum, am_dum, (.goto (-120), 132, 9, 0, 0, 0, 0), am_dum, am_dum, (.aload_n 0, 133, 0, 0, 0, 0, 0), (.iconst 0, 134, 0, 0, 0, 0, 0), (.putfield 84, 137, 8, 3, 0, 0, 0), am_dum, am_dum, 
  (.return_, 138, 0, 0, 0, 0, 0)]
def k_Mo_isLanguage : List am_e := [
  (.iload_n 0, 1, 0, 0, 0, 0, 0), (.ifCond .lt 12, 4, 13, 0, 0, 0, 0), am_dum, am_dum, (.iload_n 0, 5, 0, 0, 0, 0, 0), (.iconst 3, 6, 0, 0, 0, 3, 0), (.if_icmp .ge 7, 9, 13, 0, 0, 0, 0), am_dum, am_dum, 
  (.iconst 1, 10, 0, 0, 0, 1, 0), (.goto 4, 13, 14, 0, 0, 0, 0), am_dum, am_dum, (.iconst 0, 14, 0, 0, 0, 0, 0), (.ireturn, 15, 1, 0, 0, 0, 0)]
def k_Mo_isStop : List am_e := [
  (.iconst 0, 1, 0, 0, 0, 0, 0), (.istore_n 3, 2, 3, 0, 0, 0, 0), (.iload_n 3, 3, 3, 0, 0, 0, 0), (.aload_n 0, 4, 0, 0, 0, 0, 0), (.getfield 95, 7, 8, 12, 0, 0, 0), am_dum, am_dum, (.if_icmp .ge 34, 10, 41, 0, 0, 0, 0), am_dum, 
  am_dum, (.aload_n 0, 11, 0, 0, 0, 0, 0), (.getfield 36, 14, 8, 11, 0, 0, 0), am_dum, am_dum, (.iload_n 3, 15, 3, 0, 0, 0, 0), (.iaload, 16, 0, 0, 0, 0, 0), (.iload_n 1, 17, 1, 0, 0, 0, 0), (.if_icmp .ne 18, 20, 35, 0, 0, 0, 0), 
  am_dum, am_dum, (.aload_n 0, 21, 0, 0, 0, 0, 0), (.sipush 1920, 24, 0, 0, 0, 1920, 0), am_dum, am_dum, (.iload_n 3, 25, 3, 0, 0, 0, 0), (.iadd, 26, 0, 0, 0, 0, 0), (.iload_n 2, 27, 2, 0, 0, 0, 0), 
  (.invokevirtual 98, 30, 105, 0, 2, 0, 0), am_dum, am_dum, (.ifCond .eq 5, 33, 35, 0, 0, 0, 0), am_dum, am_dum, (.iconst 1, 34, 0, 0, 0, 1, 0), (.ireturn, 35, 1, 0, 0, 0, 0), (.iinc 3 1, 38, 3, 0, 0, 1, 0), am_dum, am_dum, 
  (.goto (-36), 41, 2, 0, 0, 0, 0), am_dum, am_dum, (.iconst 0, 42, 0, 0, 0, 0, 0), (.ireturn, 43, 1, 0, 0, 0, 0)]
def k_Mo_stop : List am_e := [
  (.iload_n 1, 1, 1, 0, 0, 0, 0), (.invokestatic 102, 4, 112, 3, 1, 0, 0), am_dum, am_dum, (.ifCond .ne 5, 7, 9, 0, 0, 0, 0), am_dum, am_dum, (.iconst (-1), 8, 0, 0, 0, -1, 0), (.ireturn, 9, 0, 0, 0, 0, 0), 
  (.aload_n 0, 10, 0, 0, 0, 0, 0), (.invokevirtual 106, 13, 111, 0, 0, 0, 0), am_dum, am_dum, (.iconst 0, 14, 0, 0, 0, 0, 0), (.istore_n 2, 15, 2, 0, 0, 0, 0), (.iconst 0, 16, 0, 0, 0, 0, 0), (.istore_n 3, 17, 3, 0, 0, 0, 0), 
  (.iload_n 3, 18, 3, 0, 0, 0, 0), (.aload_n 0, 19, 0, 0, 0, 0, 0), (.getfield 88, 22, 8, 14, 0, 0, 0), am_dum, am_dum, (.if_icmp .ge 65, 25, 87, 0, 0, 0, 0), am_dum, am_dum, (.aload_n 0, 26, 0, 0, 0, 0, 0), 
  (.iload_n 1, 27, 1, 0, 0, 0, 0), (.sipush 3968, 30, 0, 0, 0, 3968, 0), am_dum, am_dum, (.iload_n 3, 31, 3, 0, 0, 0, 0), (.iadd, 32, 0, 0, 0, 0, 0), (.invokevirtual 109, 35, 113, 0, 2, 0, 0), am_dum, am_dum, 
  (.ifCond .eq 6, 38, 41, 0, 0, 0, 0), am_dum, am_dum, (.goto 43, 41, 81, 0, 0, 0, 0), am_dum, am_dum, (.aload_n 0, 42, 0, 0, 0, 0, 0), (.getfield 36, 45, 8, 11, 0, 0, 0), am_dum, am_dum, (.aload_n 0, 46, 0, 0, 0, 0, 0), 
  (.getfield 95, 49, 8, 12, 0, 0, 0), am_dum, am_dum, (.iload_n 1, 50, 1, 0, 0, 0, 0), (.iastore, 51, 0, 0, 0, 0, 0), (.aload_n 0, 52, 0, 0, 0, 0, 0), (.sipush 3968, 55, 0, 0, 0, 3968, 0), am_dum, am_dum, 
  (.iload_n 3, 56, 3, 0, 0, 0, 0), (.iadd, 57, 0, 0, 0, 0, 0), (.sipush 1920, 60, 0, 0, 0, 1920, 0), am_dum, am_dum, (.aload_n 0, 61, 0, 0, 0, 0, 0), (.getfield 95, 64, 8, 12, 0, 0, 0), am_dum, am_dum, (.iadd, 65, 0, 0, 0, 0, 0), 
  (.invokevirtual 112, 68, 108, 0, 2, 0, 0), am_dum, am_dum, (.aload_n 0, 69, 0, 0, 0, 0, 0), (.dup, 70, 0, 0, 0, 0, 0), (.getfield 95, 73, 8, 12, 0, 0, 0), am_dum, am_dum, (.iconst 1, 74, 0, 0, 0, 1, 0), 
  (.iadd, 75, 0, 0, 0, 0, 0), (.putfield 95, 78, 8, 12, 0, 0, 0), am_dum, am_dum, (.iinc 2 1, 81, 2, 0, 0, 1, 0), am_dum, am_dum, (.iinc 3 1, 84, 3, 0, 0, 1, 0), am_dum, am_dum, (.goto (-67), 87, 17, 0, 0, 0, 0), am_dum, am_dum, 
  (.iload_n 2, 88, 2, 0, 0, 0, 0), (.ireturn, 89, 0, 0, 0, 0, 0)]
def k_Mo_endingAt : List am_e := [
  (.sipush 3920, 3, 0, 0, 0, 3920, 0), am_dum, am_dum, (.bipush 16, 5, 0, 0, 0, 16, 0), am_dum, (.iload_n 0, 6, 0, 0, 0, 0, 0), (.imul, 7, 0, 0, 0, 0, 0), (.iadd, 8, 0, 0, 0, 0, 0), (.iconst 2, 9, 0, 0, 0, 2, 0), 
  (.iload_n 1, 10, 1, 0, 0, 0, 0), (.imul, 11, 0, 0, 0, 0, 0), (.iadd, 12, 0, 0, 0, 0, 0), (.ireturn, 13, 0, 0, 0, 0, 0)]
def k_Mo_ending : List am_e := [
  (.iload_n 1, 1, 1, 0, 0, 0, 0), (.invokestatic 102, 4, 112, 3, 1, 0, 0), am_dum, am_dum, (.ifCond .ne 5, 7, 9, 0, 0, 0, 0), am_dum, am_dum, (.iconst (-1), 8, 0, 0, 0, -1, 0), (.ireturn, 9, 0, 0, 0, 0, 0), 
  (.aload_n 0, 10, 0, 0, 0, 0, 0), (.invokevirtual 106, 13, 111, 0, 0, 0, 0), am_dum, am_dum, (.aload_n 0, 14, 0, 0, 0, 0, 0), (.getfield 88, 17, 8, 14, 0, 0, 0), am_dum, am_dum, (.ifCond .eq 11, 20, 28, 0, 0, 0, 0), am_dum, 
  am_dum, (.aload_n 0, 21, 0, 0, 0, 0, 0), (.getfield 88, 24, 8, 14, 0, 0, 0), am_dum, am_dum, (.iconst 2, 25, 0, 0, 0, 2, 0), (.if_icmp .le 6, 28, 31, 0, 0, 0, 0), am_dum, am_dum, (.bipush (-2), 30, 0, 0, 0, -2, 0), am_dum, 
  (.ireturn, 31, 0, 0, 0, 0, 0), (.aload_n 0, 32, 0, 0, 0, 0, 0), (.getfield 39, 35, 8, 13, 0, 0, 0), am_dum, am_dum, (.iload_n 1, 36, 1, 0, 0, 0, 0), (.iaload, 37, 0, 0, 0, 0, 0), (.bipush 8, 39, 0, 0, 0, 8, 0), am_dum, 
  (.if_icmp .ne 6, 42, 45, 0, 0, 0, 0), am_dum, am_dum, (.bipush (-3), 44, 0, 0, 0, -3, 0), am_dum, (.ireturn, 45, 0, 0, 0, 0, 0), (.iload_n 1, 46, 1, 0, 0, 0, 0), (.aload_n 0, 47, 0, 0, 0, 0, 0), 
  (.getfield 39, 50, 8, 13, 0, 0, 0), am_dum, am_dum, (.iload_n 1, 51, 1, 0, 0, 0, 0), (.iaload, 52, 0, 0, 0, 0, 0), (.invokestatic 115, 55, 115, 3, 2, 0, 0), am_dum, am_dum, (.istore_n 2, 56, 2, 0, 0, 0, 0), 
  (.aload_n 0, 57, 0, 0, 0, 0, 0), (.sipush 3968, 60, 0, 0, 0, 3968, 0), am_dum, am_dum, (.iload_n 2, 61, 2, 0, 0, 0, 0), (.invokevirtual 112, 64, 108, 0, 2, 0, 0), am_dum, am_dum, (.aload_n 0, 65, 0, 0, 0, 0, 0), 
  (.getfield 14, 68, 8, 1, 0, 0, 0), am_dum, am_dum, (.iload_n 2, 69, 2, 0, 0, 0, 0), (.iconst 1, 70, 0, 0, 0, 1, 0), (.iadd, 71, 0, 0, 0, 0, 0), (.iconst 0, 72, 0, 0, 0, 0, 0), (.iastore, 73, 0, 0, 0, 0, 0), 
  (.aload_n 0, 74, 0, 0, 0, 0, 0), (.getfield 88, 77, 8, 14, 0, 0, 0), am_dum, am_dum, (.iconst 2, 78, 0, 0, 0, 2, 0), (.if_icmp .ne 13, 81, 91, 0, 0, 0, 0), am_dum, am_dum, (.aload_n 0, 82, 0, 0, 0, 0, 0), 
  (.sipush 3969, 85, 0, 0, 0, 3969, 0), am_dum, am_dum, (.iload_n 2, 86, 2, 0, 0, 0, 0), (.iconst 1, 87, 0, 0, 0, 1, 0), (.iadd, 88, 0, 0, 0, 0, 0), (.invokevirtual 112, 91, 108, 0, 2, 0, 0), am_dum, am_dum, 
  (.aload_n 0, 92, 0, 0, 0, 0, 0), (.getfield 39, 95, 8, 13, 0, 0, 0), am_dum, am_dum, (.iload_n 1, 96, 1, 0, 0, 0, 0), (.dup2, 97, 0, 0, 0, 0, 0), (.iaload, 98, 0, 0, 0, 0, 0), (.iconst 1, 99, 0, 0, 0, 1, 0), 
  (.iadd, 100, 0, 0, 0, 0, 0), (.iastore, 101, 0, 0, 0, 0, 0), (.aload_n 0, 102, 0, 0, 0, 0, 0), (.getfield 39, 105, 8, 13, 0, 0, 0), am_dum, am_dum, (.iload_n 1, 106, 1, 0, 0, 0, 0), (.iaload, 107, 0, 0, 0, 0, 0), 
  (.ireturn, 108, 0, 0, 0, 0, 0)]
def k_Mo_ends : List am_e := [
  (.aload_n 0, 1, 0, 0, 0, 0, 0), (.getfield 14, 4, 8, 1, 0, 0, 0), am_dum, am_dum, (.iload_n 1, 5, 1, 0, 0, 0, 0), (.iaload, 6, 0, 0, 0, 0, 0), (.aload_n 0, 7, 0, 0, 0, 0, 0), (.getfield 14, 10, 8, 1, 0, 0, 0), am_dum, am_dum, 
  (.iload_n 2, 11, 2, 0, 0, 0, 0), (.iaload, 12, 0, 0, 0, 0, 0), (.isub, 13, 0, 0, 0, 0, 0), (.istore_n 3, 14, 3, 0, 0, 0, 0), (.iload_n 3, 15, 3, 0, 0, 0, 0), (.iconst 3, 16, 0, 0, 0, 3, 0), (.if_icmp .lt 7, 19, 23, 0, 0, 0, 0), 
  am_dum, am_dum, (.iconst 1, 20, 0, 0, 0, 1, 0), (.goto 4, 23, 24, 0, 0, 0, 0), am_dum, am_dum, (.iconst 0, 24, 0, 0, 0, 0, 0), (.istore 4, 26, 4, 0, 0, 0, 0), am_dum, (.iconst 0, 27, 0, 0, 0, 0, 0), 
  (.istore 5, 29, 5, 0, 0, 0, 0), am_dum, (.iload 5, 31, 5, 0, 0, 0, 0), am_dum, (.aload_n 0, 32, 0, 0, 0, 0, 0), (.getfield 14, 35, 8, 1, 0, 0, 0), am_dum, am_dum, (.iload_n 2, 36, 2, 0, 0, 0, 0), (.iaload, 37, 0, 0, 0, 0, 0), 
  (.if_icmp .ge 40, 40, 77, 0, 0, 0, 0), am_dum, am_dum, (.iload 4, 42, 4, 0, 0, 0, 0), am_dum, (.ifCond .eq 35, 45, 77, 0, 0, 0, 0), am_dum, am_dum, (.aload_n 0, 46, 0, 0, 0, 0, 0), (.iload_n 1, 47, 1, 0, 0, 0, 0), 
  (.iload_n 3, 48, 3, 0, 0, 0, 0), (.iload 5, 50, 5, 0, 0, 0, 0), am_dum, (.iadd, 51, 0, 0, 0, 0, 0), (.invokevirtual 76, 54, 104, 0, 2, 0, 0), am_dum, am_dum, (.aload_n 0, 55, 0, 0, 0, 0, 0), (.iload_n 2, 56, 2, 0, 0, 0, 0), 
  (.iload 5, 58, 5, 0, 0, 0, 0), am_dum, (.invokevirtual 76, 61, 104, 0, 2, 0, 0), am_dum, am_dum, (.if_icmp .ne 7, 64, 68, 0, 0, 0, 0), am_dum, am_dum, (.iconst 1, 65, 0, 0, 0, 1, 0), (.goto 4, 68, 69, 0, 0, 0, 0), am_dum, am_dum, 
  (.iconst 0, 69, 0, 0, 0, 0, 0), (.istore 4, 71, 4, 0, 0, 0, 0), am_dum, (.iinc 5 1, 74, 5, 0, 0, 1, 0), am_dum, am_dum, (.goto (-45), 77, 29, 0, 0, 0, 0), am_dum, am_dum, (.iload 4, 79, 4, 0, 0, 0, 0), am_dum, 
  (.ireturn, 80, 1, 0, 0, 0, 0)]
def k_Mo_stemTo : List am_e := [
  (.iconst 0, 1, 0, 0, 0, 0, 0), (.istore 4, 3, 4, 0, 0, 0, 0), am_dum, (.iload 4, 5, 4, 0, 0, 0, 0), am_dum, (.aload_n 0, 6, 0, 0, 0, 0, 0), (.getfield 39, 9, 8, 13, 0, 0, 0), am_dum, am_dum, (.iload_n 1, 10, 1, 0, 0, 0, 0), 
  (.iaload, 11, 0, 0, 0, 0, 0), (.if_icmp .ge 23, 14, 34, 0, 0, 0, 0), am_dum, am_dum, (.aload_n 0, 15, 0, 0, 0, 0, 0), (.iload_n 2, 16, 2, 0, 0, 0, 0), (.iload_n 1, 17, 1, 0, 0, 0, 0), (.iload 4, 19, 4, 0, 0, 0, 0), am_dum, 
  (.invokestatic 115, 22, 115, 3, 2, 0, 0), am_dum, am_dum, (.invokevirtual 118, 25, 117, 0, 2, 0, 0), am_dum, am_dum, (.ifCond .ne 9, 28, 34, 0, 0, 0, 0), am_dum, am_dum, (.iinc 4 1, 31, 4, 0, 0, 1, 0), am_dum, am_dum, 
  (.goto (-28), 34, 3, 0, 0, 0, 0), am_dum, am_dum, (.iload 4, 36, 4, 0, 0, 0, 0), am_dum, (.aload_n 0, 37, 0, 0, 0, 0, 0), (.getfield 39, 40, 8, 13, 0, 0, 0), am_dum, am_dum, (.iload_n 1, 41, 1, 0, 0, 0, 0), 
  (.iaload, 42, 0, 0, 0, 0, 0), (.if_icmp .ne 10, 45, 52, 0, 0, 0, 0), am_dum, am_dum, (.aload_n 0, 46, 0, 0, 0, 0, 0), (.iload_n 2, 47, 2, 0, 0, 0, 0), (.iload_n 3, 48, 3, 0, 0, 0, 0), (.invokevirtual 112, 51, 108, 0, 2, 0, 0), 
  am_dum, am_dum, (.return_, 52, 0, 0, 0, 0, 0), (.iload_n 1, 53, 1, 0, 0, 0, 0), (.iload 4, 55, 4, 0, 0, 0, 0), am_dum, (.invokestatic 115, 58, 115, 3, 2, 0, 0), am_dum, am_dum, (.istore 5, 60, 5, 0, 0, 0, 0), am_dum, 
  (.aload_n 0, 61, 0, 0, 0, 0, 0), (.getfield 14, 64, 8, 1, 0, 0, 0), am_dum, am_dum, (.iload_n 3, 65, 3, 0, 0, 0, 0), (.iconst 0, 66, 0, 0, 0, 0, 0), (.iastore, 67, 0, 0, 0, 0, 0), (.iconst 0, 68, 0, 0, 0, 0, 0), 
  (.istore 6, 70, 6, 0, 0, 0, 0), am_dum, (.iload 6, 72, 6, 0, 0, 0, 0), am_dum, (.aload_n 0, 73, 0, 0, 0, 0, 0), (.getfield 14, 76, 8, 1, 0, 0, 0), am_dum, am_dum, (.iload_n 2, 77, 2, 0, 0, 0, 0), (.iaload, 78, 0, 0, 0, 0, 0), 
  (.aload_n 0, 79, 0, 0, 0, 0, 0), (.getfield 14, 82, 8, 1, 0, 0, 0), am_dum, am_dum, (.iload 5, 84, 5, 0, 0, 0, 0), am_dum, (.iaload, 85, 0, 0, 0, 0, 0), (.isub, 86, 0, 0, 0, 0, 0), (.if_icmp .ge 21, 89, 107, 0, 0, 0, 0), am_dum, 
  am_dum, (.aload_n 0, 90, 0, 0, 0, 0, 0), (.iload_n 3, 91, 3, 0, 0, 0, 0), (.aload_n 0, 92, 0, 0, 0, 0, 0), (.iload_n 2, 93, 2, 0, 0, 0, 0), (.iload 6, 95, 6, 0, 0, 0, 0), am_dum, (.invokevirtual 76, 98, 104, 0, 2, 0, 0), am_dum, 
  am_dum, (.invokevirtual 80, 101, 107, 0, 2, 0, 0), am_dum, am_dum, (.iinc 6 1, 104, 6, 0, 0, 1, 0), am_dum, am_dum, (.goto (-34), 107, 70, 0, 0, 0, 0), am_dum, am_dum, (.iconst 0, 108, 0, 0, 0, 0, 0), 
  (.istore 6, 110, 6, 0, 0, 0, 0), am_dum, (.iload 6, 112, 6, 0, 0, 0, 0), am_dum, (.aload_n 0, 113, 0, 0, 0, 0, 0), (.getfield 14, 116, 8, 1, 0, 0, 0), am_dum, am_dum, (.iload 5, 118, 5, 0, 0, 0, 0), am_dum, 
  (.iconst 1, 119, 0, 0, 0, 1, 0), (.iadd, 120, 0, 0, 0, 0, 0), (.iaload, 121, 0, 0, 0, 0, 0), (.if_icmp .ge 24, 124, 145, 0, 0, 0, 0), am_dum, am_dum, (.aload_n 0, 125, 0, 0, 0, 0, 0), (.iload_n 3, 126, 3, 0, 0, 0, 0), 
  (.aload_n 0, 127, 0, 0, 0, 0, 0), (.iload 5, 129, 5, 0, 0, 0, 0), am_dum, (.iconst 1, 130, 0, 0, 0, 1, 0), (.iadd, 131, 0, 0, 0, 0, 0), (.iload 6, 133, 6, 0, 0, 0, 0), am_dum, (.invokevirtual 76, 136, 104, 0, 2, 0, 0), am_dum, 
  am_dum, (.invokevirtual 80, 139, 107, 0, 2, 0, 0), am_dum, am_dum, (.iinc 6 1, 142, 6, 0, 0, 1, 0), am_dum, am_dum, (.goto (-32), 145, 110, 0, 0, 0, 0), am_dum, am_dum, (.return_, 146, 0, 0, 0, 0, 0)]
def k_Mo_show : List am_e := [
  (.aload_n 0, 1, 0, 0, 0, 0, 0), (.aload_n 0, 2, 0, 0, 0, 0, 0), (.getfield 14, 5, 8, 1, 0, 0, 0), am_dum, am_dum, (.iload_n 1, 6, 1, 0, 0, 0, 0), (.iaload, 7, 0, 0, 0, 0, 0), (.putfield 121, 10, 8, 31, 0, 0, 0), am_dum, am_dum, 
  (.iconst 0, 11, 0, 0, 0, 0, 0), (.istore_n 2, 12, 2, 0, 0, 0, 0), (.iload_n 2, 13, 2, 0, 0, 0, 0), (.aload_n 0, 14, 0, 0, 0, 0, 0), (.getfield 121, 17, 8, 31, 0, 0, 0), am_dum, am_dum, (.if_icmp .ge 22, 20, 39, 0, 0, 0, 0), 
  am_dum, am_dum, (.aload_n 0, 21, 0, 0, 0, 0, 0), (.getfield 70, 24, 8, 30, 0, 0, 0), am_dum, am_dum, (.iload_n 2, 25, 2, 0, 0, 0, 0), (.aload_n 0, 26, 0, 0, 0, 0, 0), (.iload_n 1, 27, 1, 0, 0, 0, 0), 
  (.iload_n 2, 28, 2, 0, 0, 0, 0), (.invokevirtual 76, 31, 104, 0, 2, 0, 0), am_dum, am_dum, (.i2b, 32, 0, 0, 0, 0, 0), (.bastore, 33, 0, 0, 0, 0, 0), (.iinc 2 1, 36, 2, 0, 0, 1, 0), am_dum, am_dum, 
  (.goto (-24), 39, 12, 0, 0, 0, 0), am_dum, am_dum, (.aload_n 0, 40, 0, 0, 0, 0, 0), (.getfield 121, 43, 8, 31, 0, 0, 0), am_dum, am_dum, (.ireturn, 44, 0, 0, 0, 0, 0)]
def k_Mo_stem : List am_e := [
  (.iload_n 1, 1, 1, 0, 0, 0, 0), (.invokestatic 102, 4, 112, 3, 1, 0, 0), am_dum, am_dum, (.ifCond .ne 5, 7, 9, 0, 0, 0, 0), am_dum, am_dum, (.iconst (-1), 8, 0, 0, 0, -1, 0), (.ireturn, 9, 0, 0, 0, 0, 0), 
  (.aload_n 0, 10, 0, 0, 0, 0, 0), (.invokevirtual 106, 13, 111, 0, 0, 0, 0), am_dum, am_dum, (.aload_n 0, 14, 0, 0, 0, 0, 0), (.getfield 88, 17, 8, 14, 0, 0, 0), am_dum, am_dum, (.ifCond .ne 6, 20, 23, 0, 0, 0, 0), am_dum, am_dum, 
  (.bipush (-2), 22, 0, 0, 0, -2, 0), am_dum, (.ireturn, 23, 0, 0, 0, 0, 0), (.aload_n 0, 24, 0, 0, 0, 0, 0), (.iload_n 1, 25, 1, 0, 0, 0, 0), (.sipush 3968, 28, 0, 0, 0, 3968, 0), am_dum, am_dum, 
  (.sipush 6032, 31, 0, 0, 0, 6032, 0), am_dum, am_dum, (.invokevirtual 124, 34, 118, 0, 3, 0, 0), am_dum, am_dum, (.aload_n 0, 35, 0, 0, 0, 0, 0), (.sipush 6032, 38, 0, 0, 0, 6032, 0), am_dum, am_dum, 
  (.invokevirtual 128, 41, 119, 0, 1, 0, 0), am_dum, am_dum, (.ireturn, 42, 0, 0, 0, 0, 0)]
def k_Mo_at : List am_e := [
  (.iload_n 1, 1, 1, 0, 0, 0, 0), (.ifCond .lt 20, 4, 21, 0, 0, 0, 0), am_dum, am_dum, (.iload_n 1, 5, 1, 0, 0, 0, 0), (.aload_n 0, 6, 0, 0, 0, 0, 0), (.getfield 121, 9, 8, 31, 0, 0, 0), am_dum, am_dum, 
  (.if_icmp .ge 12, 12, 21, 0, 0, 0, 0), am_dum, am_dum, (.aload_n 0, 13, 0, 0, 0, 0, 0), (.getfield 70, 16, 8, 30, 0, 0, 0), am_dum, am_dum, (.iload_n 1, 17, 1, 0, 0, 0, 0), (.baload, 18, 0, 0, 0, 0, 0), 
  (.goto 4, 21, 22, 0, 0, 0, 0), am_dum, am_dum, (.iconst (-1), 22, 0, 0, 0, -1, 0), (.ireturn, 23, 0, 0, 0, 0, 0)]
def k_Mo_text : List am_e := [
  (.iload_n 1, 1, 1, 0, 0, 0, 0), (.invokestatic 102, 4, 112, 3, 1, 0, 0), am_dum, am_dum, (.ifCond .eq 12, 7, 16, 0, 0, 0, 0), am_dum, am_dum, (.iload_n 2, 8, 2, 0, 0, 0, 0), (.ifCond .lt 8, 11, 16, 0, 0, 0, 0), am_dum, am_dum, 
  (.iload_n 2, 12, 2, 0, 0, 0, 0), (.iconst 4, 13, 0, 0, 0, 4, 0), (.if_icmp .lt 5, 16, 18, 0, 0, 0, 0), am_dum, am_dum, (.iconst (-1), 17, 0, 0, 0, -1, 0), (.ireturn, 18, 0, 0, 0, 0, 0), (.aload_n 0, 19, 0, 0, 0, 0, 0), 
  (.invokevirtual 106, 22, 111, 0, 0, 0, 0), am_dum, am_dum, (.aload_n 0, 23, 0, 0, 0, 0, 0), (.getfield 131, 26, 8, 9, 0, 0, 0), am_dum, am_dum, (.bipush 40, 28, 0, 0, 0, 40, 0), am_dum, (.if_icmp .eq 22, 31, 50, 0, 0, 0, 0), 
  am_dum, am_dum, (.aload_n 0, 32, 0, 0, 0, 0, 0), (.aload_n 0, 33, 0, 0, 0, 0, 0), (.getfield 131, 36, 8, 9, 0, 0, 0), am_dum, am_dum, (.invokevirtual 134, 39, 123, 0, 1, 0, 0), am_dum, am_dum, (.aload_n 0, 40, 0, 0, 0, 0, 0), 
  (.getfield 88, 43, 8, 14, 0, 0, 0), am_dum, am_dum, (.iadd, 44, 0, 0, 0, 0, 0), (.sipush 400, 47, 0, 0, 0, 400, 0), am_dum, am_dum, (.if_icmp .le 6, 50, 53, 0, 0, 0, 0), am_dum, am_dum, (.bipush (-3), 52, 0, 0, 0, -3, 0), am_dum, 
  (.ireturn, 53, 0, 0, 0, 0, 0), (.aload_n 0, 54, 0, 0, 0, 0, 0), (.getfield 21, 57, 8, 4, 0, 0, 0), am_dum, am_dum, (.aload_n 0, 58, 0, 0, 0, 0, 0), (.getfield 131, 61, 8, 9, 0, 0, 0), am_dum, am_dum, 
  (.iload_n 1, 62, 1, 0, 0, 0, 0), (.iastore, 63, 0, 0, 0, 0, 0), (.aload_n 0, 64, 0, 0, 0, 0, 0), (.getfield 24, 67, 8, 5, 0, 0, 0), am_dum, am_dum, (.aload_n 0, 68, 0, 0, 0, 0, 0), (.getfield 131, 71, 8, 9, 0, 0, 0), am_dum, 
  am_dum, (.iload_n 2, 72, 2, 0, 0, 0, 0), (.iastore, 73, 0, 0, 0, 0, 0), (.aload_n 0, 74, 0, 0, 0, 0, 0), (.getfield 27, 77, 8, 6, 0, 0, 0), am_dum, am_dum, (.aload_n 0, 78, 0, 0, 0, 0, 0), (.getfield 131, 81, 8, 9, 0, 0, 0), 
  am_dum, am_dum, (.aload_n 0, 82, 0, 0, 0, 0, 0), (.getfield 88, 85, 8, 14, 0, 0, 0), am_dum, am_dum, (.iastore, 86, 0, 0, 0, 0, 0), (.iconst 0, 87, 0, 0, 0, 0, 0), (.istore_n 3, 88, 3, 0, 0, 0, 0), 
  (.iload_n 3, 89, 3, 0, 0, 0, 0), (.aload_n 0, 90, 0, 0, 0, 0, 0), (.getfield 88, 93, 8, 14, 0, 0, 0), am_dum, am_dum, (.if_icmp .ge 67, 96, 160, 0, 0, 0, 0), am_dum, am_dum, (.aload_n 0, 97, 0, 0, 0, 0, 0), 
  (.sipush 3968, 100, 0, 0, 0, 3968, 0), am_dum, am_dum, (.iload_n 3, 101, 3, 0, 0, 0, 0), (.iadd, 102, 0, 0, 0, 0, 0), (.bipush 48, 104, 0, 0, 0, 48, 0), am_dum, (.aload_n 0, 105, 0, 0, 0, 0, 0), 
  (.getfield 131, 108, 8, 9, 0, 0, 0), am_dum, am_dum, (.imul, 109, 0, 0, 0, 0, 0), (.iload_n 3, 110, 3, 0, 0, 0, 0), (.iadd, 111, 0, 0, 0, 0, 0), (.invokevirtual 112, 114, 108, 0, 2, 0, 0), am_dum, am_dum, 
  (.aload_n 0, 115, 0, 0, 0, 0, 0), (.getfield 30, 118, 8, 7, 0, 0, 0), am_dum, am_dum, (.bipush 48, 120, 0, 0, 0, 48, 0), am_dum, (.aload_n 0, 121, 0, 0, 0, 0, 0), (.getfield 131, 124, 8, 9, 0, 0, 0), am_dum, am_dum, 
  (.imul, 125, 0, 0, 0, 0, 0), (.iload_n 3, 126, 3, 0, 0, 0, 0), (.iadd, 127, 0, 0, 0, 0, 0), (.aload_n 0, 128, 0, 0, 0, 0, 0), (.getfield 42, 131, 8, 15, 0, 0, 0), am_dum, am_dum, (.iload_n 3, 132, 3, 0, 0, 0, 0), 
  (.iaload, 133, 0, 0, 0, 0, 0), (.iastore, 134, 0, 0, 0, 0, 0), (.aload_n 0, 135, 0, 0, 0, 0, 0), (.getfield 33, 138, 8, 8, 0, 0, 0), am_dum, am_dum, (.bipush 48, 140, 0, 0, 0, 48, 0), am_dum, (.aload_n 0, 141, 0, 0, 0, 0, 0), 
  (.getfield 131, 144, 8, 9, 0, 0, 0), am_dum, am_dum, (.imul, 145, 0, 0, 0, 0, 0), (.iload_n 3, 146, 3, 0, 0, 0, 0), (.iadd, 147, 0, 0, 0, 0, 0), (.aload_n 0, 148, 0, 0, 0, 0, 0), (.getfield 45, 151, 8, 16, 0, 0, 0), am_dum, 
  am_dum, (.iload_n 3, 152, 3, 0, 0, 0, 0), (.iaload, 153, 0, 0, 0, 0, 0), (.iastore, 154, 0, 0, 0, 0, 0), (.iinc 3 1, 157, 3, 0, 0, 1, 0), am_dum, am_dum, (.goto (-69), 160, 88, 0, 0, 0, 0), am_dum, am_dum, 
  (.aload_n 0, 161, 0, 0, 0, 0, 0), (.dup, 162, 0, 0, 0, 0, 0), (.getfield 131, 165, 8, 9, 0, 0, 0), am_dum, am_dum, (.iconst 1, 166, 0, 0, 0, 1, 0), (.iadd, 167, 0, 0, 0, 0, 0), (.putfield 131, 170, 8, 9, 0, 0, 0), am_dum, am_dum, 
  (.aload_n 0, 171, 0, 0, 0, 0, 0), (.getfield 131, 174, 8, 9, 0, 0, 0), am_dum, am_dum, (.iconst 1, 175, 0, 0, 0, 1, 0), (.isub, 176, 0, 0, 0, 0, 0), (.ireturn, 177, 0, 0, 0, 0, 0)]
def k_Mo_wordsOf : List am_e := [
  (.iconst 0, 1, 0, 0, 0, 0, 0), (.istore_n 2, 2, 2, 0, 0, 0, 0), (.iconst 0, 3, 0, 0, 0, 0, 0), (.istore_n 3, 4, 3, 0, 0, 0, 0), (.iload_n 3, 5, 3, 0, 0, 0, 0), (.iload_n 1, 6, 1, 0, 0, 0, 0), (.if_icmp .ge 18, 9, 24, 0, 0, 0, 0), 
  am_dum, am_dum, (.iload_n 2, 10, 2, 0, 0, 0, 0), (.aload_n 0, 11, 0, 0, 0, 0, 0), (.getfield 27, 14, 8, 6, 0, 0, 0), am_dum, am_dum, (.iload_n 3, 15, 3, 0, 0, 0, 0), (.iaload, 16, 0, 0, 0, 0, 0), (.iadd, 17, 0, 0, 0, 0, 0), 
  (.istore_n 2, 18, 2, 0, 0, 0, 0), (.iinc 3 1, 21, 3, 0, 0, 1, 0), am_dum, am_dum, (.goto (-17), 24, 4, 0, 0, 0, 0), am_dum, am_dum, (.iload_n 2, 25, 2, 0, 0, 0, 0), (.ireturn, 26, 0, 0, 0, 0, 0)]
def k_Mo_isText : List am_e := [
  (.iload_n 1, 1, 1, 0, 0, 0, 0), (.ifCond .lt 24, 4, 25, 0, 0, 0, 0), am_dum, am_dum, (.iload_n 1, 5, 1, 0, 0, 0, 0), (.aload_n 0, 6, 0, 0, 0, 0, 0), (.getfield 131, 9, 8, 9, 0, 0, 0), am_dum, am_dum, 
  (.if_icmp .ge 16, 12, 25, 0, 0, 0, 0), am_dum, am_dum, (.aload_n 0, 13, 0, 0, 0, 0, 0), (.getfield 21, 16, 8, 4, 0, 0, 0), am_dum, am_dum, (.iload_n 1, 17, 1, 0, 0, 0, 0), (.iaload, 18, 0, 0, 0, 0, 0), 
  (.ifCond .lt 7, 21, 25, 0, 0, 0, 0), am_dum, am_dum, (.iconst 1, 22, 0, 0, 0, 1, 0), (.goto 4, 25, 26, 0, 0, 0, 0), am_dum, am_dum, (.iconst 0, 26, 0, 0, 0, 0, 0), (.ireturn, 27, 1, 0, 0, 0, 0)]
def k_Mo_remove : List am_e := [
  (.aload_n 0, 1, 0, 0, 0, 0, 0), (.iload_n 1, 2, 1, 0, 0, 0, 0), (.invokevirtual 137, 5, 124, 0, 1, 0, 0), am_dum, am_dum, (.ifCond .ne 5, 8, 10, 0, 0, 0, 0), am_dum, am_dum, (.iconst (-1), 9, 0, 0, 0, -1, 0), 
  (.ireturn, 10, 0, 0, 0, 0, 0), (.aload_n 0, 11, 0, 0, 0, 0, 0), (.getfield 21, 14, 8, 4, 0, 0, 0), am_dum, am_dum, (.iload_n 1, 15, 1, 0, 0, 0, 0), (.iconst (-1), 16, 0, 0, 0, -1, 0), (.iastore, 17, 0, 0, 0, 0, 0), 
  (.aload_n 0, 18, 0, 0, 0, 0, 0), (.dup, 19, 0, 0, 0, 0, 0), (.getfield 140, 22, 8, 10, 0, 0, 0), am_dum, am_dum, (.iconst 1, 23, 0, 0, 0, 1, 0), (.iadd, 24, 0, 0, 0, 0, 0), (.putfield 140, 27, 8, 10, 0, 0, 0), am_dum, am_dum, 
  (.iconst 1, 28, 0, 0, 0, 1, 0), (.ireturn, 29, 0, 0, 0, 0, 0)]
def k_Mo_texts : List am_e := [
  (.aload_n 0, 1, 0, 0, 0, 0, 0), (.getfield 131, 4, 8, 9, 0, 0, 0), am_dum, am_dum, (.aload_n 0, 5, 0, 0, 0, 0, 0), (.getfield 140, 8, 8, 10, 0, 0, 0), am_dum, am_dum, (.isub, 9, 0, 0, 0, 0, 0), (.ireturn, 10, 0, 0, 0, 0, 0)]
def k_Mo_place : List am_e := [
  (.aload_n 0, 1, 0, 0, 0, 0, 0), (.iload_n 1, 2, 1, 0, 0, 0, 0), (.invokevirtual 137, 5, 124, 0, 1, 0, 0), am_dum, am_dum, (.ifCond .eq 26, 8, 31, 0, 0, 0, 0), am_dum, am_dum, (.iload_n 2, 9, 2, 0, 0, 0, 0), 
  (.ifCond .lt 22, 12, 31, 0, 0, 0, 0), am_dum, am_dum, (.iload_n 2, 13, 2, 0, 0, 0, 0), (.aload_n 0, 14, 0, 0, 0, 0, 0), (.getfield 27, 17, 8, 6, 0, 0, 0), am_dum, am_dum, (.iload_n 1, 18, 1, 0, 0, 0, 0), 
  (.iaload, 19, 0, 0, 0, 0, 0), (.if_icmp .ge 12, 22, 31, 0, 0, 0, 0), am_dum, am_dum, (.iload_n 3, 23, 3, 0, 0, 0, 0), (.ifCond .lt 8, 26, 31, 0, 0, 0, 0), am_dum, am_dum, (.iload_n 3, 27, 3, 0, 0, 0, 0), 
  (.iconst 1, 28, 0, 0, 0, 1, 0), (.if_icmp .le 5, 31, 33, 0, 0, 0, 0), am_dum, am_dum, (.iconst (-1), 32, 0, 0, 0, -1, 0), (.ireturn, 33, 0, 0, 0, 0, 0), (.iload_n 3, 34, 3, 0, 0, 0, 0), (.ifCond .ne 17, 37, 51, 0, 0, 0, 0), 
  am_dum, am_dum, (.aload_n 0, 38, 0, 0, 0, 0, 0), (.getfield 30, 41, 8, 7, 0, 0, 0), am_dum, am_dum, (.bipush 48, 43, 0, 0, 0, 48, 0), am_dum, (.iload_n 1, 44, 1, 0, 0, 0, 0), (.imul, 45, 0, 0, 0, 0, 0), 
  (.iload_n 2, 46, 2, 0, 0, 0, 0), (.iadd, 47, 0, 0, 0, 0, 0), (.iaload, 48, 0, 0, 0, 0, 0), (.goto 14, 51, 62, 0, 0, 0, 0), am_dum, am_dum, (.aload_n 0, 52, 0, 0, 0, 0, 0), (.getfield 33, 55, 8, 8, 0, 0, 0), am_dum, am_dum, 
  (.bipush 48, 57, 0, 0, 0, 48, 0), am_dum, (.iload_n 1, 58, 1, 0, 0, 0, 0), (.imul, 59, 0, 0, 0, 0, 0), (.iload_n 2, 60, 2, 0, 0, 0, 0), (.iadd, 61, 0, 0, 0, 0, 0), (.iaload, 62, 0, 0, 0, 0, 0), (.ireturn, 63, 0, 0, 0, 0, 0)]
def k_Mo_hasAt : List am_e := [
  (.bipush 48, 2, 0, 0, 0, 48, 0), am_dum, (.iload_n 1, 3, 1, 0, 0, 0, 0), (.imul, 4, 0, 0, 0, 0, 0), (.iload_n 2, 5, 2, 0, 0, 0, 0), (.iadd, 6, 0, 0, 0, 0, 0), (.istore 5, 8, 5, 0, 0, 0, 0), am_dum, (.aload_n 0, 9, 0, 0, 0, 0, 0), 
  (.aload_n 0, 10, 0, 0, 0, 0, 0), (.getfield 21, 13, 8, 4, 0, 0, 0), am_dum, am_dum, (.iload_n 1, 14, 1, 0, 0, 0, 0), (.iaload, 15, 0, 0, 0, 0, 0), (.iload 5, 17, 5, 0, 0, 0, 0), am_dum, (.invokevirtual 109, 20, 113, 0, 2, 0, 0), 
  am_dum, am_dum, (.ifCond .eq 5, 23, 25, 0, 0, 0, 0), am_dum, am_dum, (.iconst 0, 24, 0, 0, 0, 0, 0), (.ireturn, 25, 1, 0, 0, 0, 0), (.aload_n 0, 26, 0, 0, 0, 0, 0), (.aload_n 0, 27, 0, 0, 0, 0, 0), 
  (.getfield 21, 30, 8, 4, 0, 0, 0), am_dum, am_dum, (.iload_n 1, 31, 1, 0, 0, 0, 0), (.iaload, 32, 0, 0, 0, 0, 0), (.iload 5, 34, 5, 0, 0, 0, 0), am_dum, (.sipush 6032, 37, 0, 0, 0, 6032, 0), am_dum, am_dum, 
  (.invokevirtual 124, 40, 118, 0, 3, 0, 0), am_dum, am_dum, (.iload 4, 42, 4, 0, 0, 0, 0), am_dum, (.ifCond .eq 14, 45, 56, 0, 0, 0, 0), am_dum, am_dum, (.aload_n 0, 46, 0, 0, 0, 0, 0), (.sipush 6032, 49, 0, 0, 0, 6032, 0), 
  am_dum, am_dum, (.iload_n 3, 50, 3, 0, 0, 0, 0), (.invokevirtual 143, 53, 106, 0, 2, 0, 0), am_dum, am_dum, (.goto 11, 56, 64, 0, 0, 0, 0), am_dum, am_dum, (.aload_n 0, 57, 0, 0, 0, 0, 0), (.sipush 6032, 60, 0, 0, 0, 6032, 0), 
  am_dum, am_dum, (.iload_n 3, 61, 3, 0, 0, 0, 0), (.invokevirtual 98, 64, 105, 0, 2, 0, 0), am_dum, am_dum, (.ireturn, 65, 1, 0, 0, 0, 0)]
def k_Mo_times : List am_e := [
  (.iconst 0, 1, 0, 0, 0, 0, 0), (.istore 4, 3, 4, 0, 0, 0, 0), am_dum, (.iconst 0, 4, 0, 0, 0, 0, 0), (.istore 5, 6, 5, 0, 0, 0, 0), am_dum, (.iload 5, 8, 5, 0, 0, 0, 0), am_dum, (.aload_n 0, 9, 0, 0, 0, 0, 0), 
  (.getfield 27, 12, 8, 6, 0, 0, 0), am_dum, am_dum, (.iload_n 1, 13, 1, 0, 0, 0, 0), (.iaload, 14, 0, 0, 0, 0, 0), (.if_icmp .ge 31, 17, 45, 0, 0, 0, 0), am_dum, am_dum, (.iload 4, 19, 4, 0, 0, 0, 0), am_dum, 
  (.aload_n 0, 20, 0, 0, 0, 0, 0), (.iload_n 1, 21, 1, 0, 0, 0, 0), (.iload 5, 23, 5, 0, 0, 0, 0), am_dum, (.iload_n 2, 24, 2, 0, 0, 0, 0), (.iload_n 3, 25, 3, 0, 0, 0, 0), (.invokevirtual 146, 28, 128, 0, 4, 0, 0), am_dum, am_dum, 
  (.ifCond .eq 7, 31, 35, 0, 0, 0, 0), am_dum, am_dum, (.iconst 1, 32, 0, 0, 0, 1, 0), (.goto 4, 35, 36, 0, 0, 0, 0), am_dum, am_dum, (.iconst 0, 36, 0, 0, 0, 0, 0), (.iadd, 37, 0, 0, 0, 0, 0), (.istore 4, 39, 4, 0, 0, 0, 0), 
  am_dum, (.iinc 5 1, 42, 5, 0, 0, 1, 0), am_dum, am_dum, (.goto (-36), 45, 6, 0, 0, 0, 0), am_dum, am_dum, (.iload 4, 47, 4, 0, 0, 0, 0), am_dum, (.ireturn, 48, 0, 0, 0, 0, 0)]
def k_Mo_stems : List am_e := [
  (.iload_n 1, 1, 1, 0, 0, 0, 0), (.invokestatic 102, 4, 112, 3, 1, 0, 0), am_dum, am_dum, (.ifCond .ne 5, 7, 9, 0, 0, 0, 0), am_dum, am_dum, (.iconst (-1), 8, 0, 0, 0, -1, 0), (.ireturn, 9, 0, 0, 0, 0, 0), 
  (.iconst 0, 10, 0, 0, 0, 0, 0), (.istore_n 2, 11, 2, 0, 0, 0, 0), (.iconst 0, 12, 0, 0, 0, 0, 0), (.istore_n 3, 13, 3, 0, 0, 0, 0), (.iload_n 3, 14, 3, 0, 0, 0, 0), (.aload_n 0, 15, 0, 0, 0, 0, 0), 
  (.getfield 131, 18, 8, 9, 0, 0, 0), am_dum, am_dum, (.if_icmp .ge 94, 21, 112, 0, 0, 0, 0), am_dum, am_dum, (.aload_n 0, 22, 0, 0, 0, 0, 0), (.getfield 21, 25, 8, 4, 0, 0, 0), am_dum, am_dum, (.iload_n 3, 26, 3, 0, 0, 0, 0), 
  (.iaload, 27, 0, 0, 0, 0, 0), (.iload_n 1, 28, 1, 0, 0, 0, 0), (.if_icmp .eq 6, 31, 34, 0, 0, 0, 0), am_dum, am_dum, (.goto 75, 34, 106, 0, 0, 0, 0), am_dum, am_dum, (.iconst 0, 35, 0, 0, 0, 0, 0), (.istore 4, 37, 4, 0, 0, 0, 0), 
  am_dum, (.iload 4, 39, 4, 0, 0, 0, 0), am_dum, (.aload_n 0, 40, 0, 0, 0, 0, 0), (.getfield 27, 43, 8, 6, 0, 0, 0), am_dum, am_dum, (.iload_n 3, 44, 3, 0, 0, 0, 0), (.iaload, 45, 0, 0, 0, 0, 0), 
  (.if_icmp .ge 61, 48, 106, 0, 0, 0, 0), am_dum, am_dum, (.aload_n 0, 49, 0, 0, 0, 0, 0), (.iload_n 1, 50, 1, 0, 0, 0, 0), (.bipush 48, 52, 0, 0, 0, 48, 0), am_dum, (.iload_n 3, 53, 3, 0, 0, 0, 0), (.imul, 54, 0, 0, 0, 0, 0), 
  (.iload 4, 56, 4, 0, 0, 0, 0), am_dum, (.iadd, 57, 0, 0, 0, 0, 0), (.invokevirtual 109, 60, 113, 0, 2, 0, 0), am_dum, am_dum, (.ifCond .eq 6, 63, 66, 0, 0, 0, 0), am_dum, am_dum, (.goto 37, 66, 100, 0, 0, 0, 0), am_dum, am_dum, 
  (.aload_n 0, 67, 0, 0, 0, 0, 0), (.iload_n 1, 68, 1, 0, 0, 0, 0), (.bipush 48, 70, 0, 0, 0, 48, 0), am_dum, (.iload_n 3, 71, 3, 0, 0, 0, 0), (.imul, 72, 0, 0, 0, 0, 0), (.iload 4, 74, 4, 0, 0, 0, 0), am_dum, 
  (.iadd, 75, 0, 0, 0, 0, 0), (.sipush 6033, 78, 0, 0, 0, 6033, 0), am_dum, am_dum, (.invokevirtual 124, 81, 118, 0, 3, 0, 0), am_dum, am_dum, (.iload_n 2, 82, 2, 0, 0, 0, 0), (.aload_n 0, 83, 0, 0, 0, 0, 0), 
  (.iload_n 1, 84, 1, 0, 0, 0, 0), (.iload_n 3, 85, 3, 0, 0, 0, 0), (.iload 4, 87, 4, 0, 0, 0, 0), am_dum, (.invokevirtual 150, 90, 131, 0, 3, 0, 0), am_dum, am_dum, (.ifCond .eq 7, 93, 97, 0, 0, 0, 0), am_dum, am_dum, 
  (.iconst 1, 94, 0, 0, 0, 1, 0), (.goto 4, 97, 98, 0, 0, 0, 0), am_dum, am_dum, (.iconst 0, 98, 0, 0, 0, 0, 0), (.iadd, 99, 0, 0, 0, 0, 0), (.istore_n 2, 100, 2, 0, 0, 0, 0), (.iinc 4 1, 103, 4, 0, 0, 1, 0), am_dum, am_dum, 
  (.goto (-66), 106, 37, 0, 0, 0, 0), am_dum, am_dum, (.iinc 3 1, 109, 3, 0, 0, 1, 0), am_dum, am_dum, (.goto (-96), 112, 13, 0, 0, 0, 0), am_dum, am_dum, (.iload_n 2, 113, 2, 0, 0, 0, 0), (.ireturn, 114, 0, 0, 0, 0, 0)]
def k_Mo_isFirst : List am_e := [
  (.iconst 0, 1, 0, 0, 0, 0, 0), (.istore 4, 3, 4, 0, 0, 0, 0), am_dum, (.iload 4, 5, 4, 0, 0, 0, 0), am_dum, (.iload_n 2, 6, 2, 0, 0, 0, 0), (.if_icmp .gt 71, 9, 77, 0, 0, 0, 0), am_dum, am_dum, (.aload_n 0, 10, 0, 0, 0, 0, 0), 
  (.getfield 21, 13, 8, 4, 0, 0, 0), am_dum, am_dum, (.iload 4, 15, 4, 0, 0, 0, 0), am_dum, (.iaload, 16, 0, 0, 0, 0, 0), (.iload_n 1, 17, 1, 0, 0, 0, 0), (.if_icmp .eq 6, 20, 23, 0, 0, 0, 0), am_dum, am_dum, 
  (.goto 51, 23, 71, 0, 0, 0, 0), am_dum, am_dum, (.iconst 0, 24, 0, 0, 0, 0, 0), (.istore 5, 26, 5, 0, 0, 0, 0), am_dum, (.iload 5, 28, 5, 0, 0, 0, 0), am_dum, (.iload 4, 30, 4, 0, 0, 0, 0), am_dum, 
  (.iload_n 2, 31, 2, 0, 0, 0, 0), (.if_icmp .ge 13, 34, 44, 0, 0, 0, 0), am_dum, am_dum, (.aload_n 0, 35, 0, 0, 0, 0, 0), (.getfield 27, 38, 8, 6, 0, 0, 0), am_dum, am_dum, (.iload 4, 40, 4, 0, 0, 0, 0), am_dum, 
  (.iaload, 41, 0, 0, 0, 0, 0), (.goto 4, 44, 45, 0, 0, 0, 0), am_dum, am_dum, (.iload_n 3, 45, 3, 0, 0, 0, 0), (.if_icmp .ge 26, 48, 71, 0, 0, 0, 0), am_dum, am_dum, (.aload_n 0, 49, 0, 0, 0, 0, 0), (.iload 4, 51, 4, 0, 0, 0, 0), 
  am_dum, (.iload 5, 53, 5, 0, 0, 0, 0), am_dum, (.sipush 6033, 56, 0, 0, 0, 6033, 0), am_dum, am_dum, (.iconst 0, 57, 0, 0, 0, 0, 0), (.invokevirtual 146, 60, 128, 0, 4, 0, 0), am_dum, am_dum, (.ifCond .eq 5, 63, 65, 0, 0, 0, 0), 
  am_dum, am_dum, (.iconst 0, 64, 0, 0, 0, 0, 0), (.ireturn, 65, 1, 0, 0, 0, 0), (.iinc 5 1, 68, 5, 0, 0, 1, 0), am_dum, am_dum, (.goto (-42), 71, 26, 0, 0, 0, 0), am_dum, am_dum, (.iinc 4 1, 74, 4, 0, 0, 1, 0), am_dum, am_dum, 
  (.goto (-71), 77, 3, 0, 0, 0, 0), am_dum, am_dum, (.iconst 1, 78, 0, 0, 0, 1, 0), (.ireturn, 79, 1, 0, 0, 0, 0)]
def k_Mo_here : List am_e := [
  (.aload_n 0, 1, 0, 0, 0, 0, 0), (.getfield 154, 4, 8, 23, 0, 0, 0), am_dum, am_dum, (.aload_n 0, 5, 0, 0, 0, 0, 0), (.getfield 84, 8, 8, 3, 0, 0, 0), am_dum, am_dum, (.if_icmp .ge 15, 11, 23, 0, 0, 0, 0), am_dum, am_dum, 
  (.aload_n 0, 12, 0, 0, 0, 0, 0), (.getfield 18, 15, 8, 2, 0, 0, 0), am_dum, am_dum, (.aload_n 0, 16, 0, 0, 0, 0, 0), (.getfield 154, 19, 8, 23, 0, 0, 0), am_dum, am_dum, (.baload, 20, 0, 0, 0, 0, 0), 
  (.goto 4, 23, 24, 0, 0, 0, 0), am_dum, am_dum, (.iconst (-1), 24, 0, 0, 0, -1, 0), (.ireturn, 25, 0, 0, 0, 0, 0)]
def k_Mo_need : List am_e := [
  (.aload_n 0, 1, 0, 0, 0, 0, 0), (.getfield 157, 4, 8, 24, 0, 0, 0), am_dum, am_dum, (.ifCond .ge 15, 7, 19, 0, 0, 0, 0), am_dum, am_dum, (.iload_n 1, 8, 1, 0, 0, 0, 0), (.ifCond .ne 11, 11, 19, 0, 0, 0, 0), am_dum, am_dum, 
  (.aload_n 0, 12, 0, 0, 0, 0, 0), (.aload_n 0, 13, 0, 0, 0, 0, 0), (.getfield 154, 16, 8, 23, 0, 0, 0), am_dum, am_dum, (.putfield 157, 19, 8, 24, 0, 0, 0), am_dum, am_dum, (.return_, 20, 0, 0, 0, 0, 0)]
def k_Mo_skip : List am_e := [
  (.aload_n 0, 1, 0, 0, 0, 0, 0), (.invokevirtual 160, 4, 132, 0, 0, 0, 0), am_dum, am_dum, (.bipush 32, 6, 0, 0, 0, 32, 0), am_dum, (.if_icmp .ne 16, 9, 22, 0, 0, 0, 0), am_dum, am_dum, (.aload_n 0, 10, 0, 0, 0, 0, 0), 
  (.dup, 11, 0, 0, 0, 0, 0), (.getfield 154, 14, 8, 23, 0, 0, 0), am_dum, am_dum, (.iconst 1, 15, 0, 0, 0, 1, 0), (.iadd, 16, 0, 0, 0, 0, 0), (.putfield 154, 19, 8, 23, 0, 0, 0), am_dum, am_dum, (.goto (-19), 22, 0, 0, 0, 0, 0), 
  am_dum, am_dum, (.return_, 23, 0, 0, 0, 0, 0)]
def k_Mo_isLetter : List am_e := [
  (.aload_n 0, 1, 0, 0, 0, 0, 0), (.getfield 154, 4, 8, 23, 0, 0, 0), am_dum, am_dum, (.aload_n 0, 5, 0, 0, 0, 0, 0), (.getfield 84, 8, 8, 3, 0, 0, 0), am_dum, am_dum, (.if_icmp .ge 22, 11, 30, 0, 0, 0, 0), am_dum, am_dum, 
  (.aload_n 0, 12, 0, 0, 0, 0, 0), (.getfield 18, 15, 8, 2, 0, 0, 0), am_dum, am_dum, (.aload_n 0, 16, 0, 0, 0, 0, 0), (.getfield 154, 19, 8, 23, 0, 0, 0), am_dum, am_dum, (.baload, 20, 0, 0, 0, 0, 0), 
  (.invokestatic 91, 23, 109, 3, 1, 0, 0), am_dum, am_dum, (.ifCond .eq 7, 26, 30, 0, 0, 0, 0), am_dum, am_dum, (.iconst 1, 27, 0, 0, 0, 1, 0), (.goto 4, 30, 31, 0, 0, 0, 0), am_dum, am_dum, (.iconst 0, 31, 0, 0, 0, 0, 0), 
  (.ireturn, 32, 1, 0, 0, 0, 0)]
def k_Mo_isPart : List am_e := [
  (.aload_n 0, 1, 0, 0, 0, 0, 0), (.invokevirtual 160, 4, 132, 0, 0, 0, 0), am_dum, am_dum, (.bipush 45, 6, 0, 0, 0, 45, 0), am_dum, (.if_icmp .eq 19, 9, 25, 0, 0, 0, 0), am_dum, am_dum, (.aload_n 0, 10, 0, 0, 0, 0, 0), 
  (.invokevirtual 160, 13, 132, 0, 0, 0, 0), am_dum, am_dum, (.bipush 34, 15, 0, 0, 0, 34, 0), am_dum, (.if_icmp .eq 10, 18, 25, 0, 0, 0, 0), am_dum, am_dum, (.aload_n 0, 19, 0, 0, 0, 0, 0), 
  (.invokevirtual 164, 22, 135, 0, 0, 0, 0), am_dum, am_dum, (.ifCond .eq 7, 25, 29, 0, 0, 0, 0), am_dum, am_dum, (.iconst 1, 26, 0, 0, 0, 1, 0), (.goto 4, 29, 30, 0, 0, 0, 0), am_dum, am_dum, (.iconst 0, 30, 0, 0, 0, 0, 0), 
  (.ireturn, 31, 1, 0, 0, 0, 0)]
def k_Mo_readWord : List am_e := [
  (.aload_n 0, 1, 0, 0, 0, 0, 0), (.aload_n 0, 2, 0, 0, 0, 0, 0), (.invokevirtual 164, 5, 135, 0, 0, 0, 0), am_dum, am_dum, (.invokevirtual 168, 8, 133, 0, 1, 0, 0), am_dum, am_dum, (.aload_n 0, 9, 0, 0, 0, 0, 0), 
  (.getfield 14, 12, 8, 1, 0, 0, 0), am_dum, am_dum, (.sipush 4016, 15, 0, 0, 0, 4016, 0), am_dum, am_dum, (.aload_n 0, 16, 0, 0, 0, 0, 0), (.getfield 172, 19, 8, 22, 0, 0, 0), am_dum, am_dum, (.iadd, 20, 0, 0, 0, 0, 0), 
  (.iconst 0, 21, 0, 0, 0, 0, 0), (.iastore, 22, 0, 0, 0, 0, 0), (.aload_n 0, 23, 0, 0, 0, 0, 0), (.getfield 157, 26, 8, 24, 0, 0, 0), am_dum, am_dum, (.ifCond .ge 74, 29, 100, 0, 0, 0, 0), am_dum, am_dum, 
  (.aload_n 0, 30, 0, 0, 0, 0, 0), (.invokevirtual 164, 33, 135, 0, 0, 0, 0), am_dum, am_dum, (.ifCond .eq 67, 36, 100, 0, 0, 0, 0), am_dum, am_dum, (.aload_n 0, 37, 0, 0, 0, 0, 0), (.aload_n 0, 38, 0, 0, 0, 0, 0), 
  (.getfield 14, 41, 8, 1, 0, 0, 0), am_dum, am_dum, (.sipush 4016, 44, 0, 0, 0, 4016, 0), am_dum, am_dum, (.aload_n 0, 45, 0, 0, 0, 0, 0), (.getfield 172, 48, 8, 22, 0, 0, 0), am_dum, am_dum, (.iadd, 49, 0, 0, 0, 0, 0), 
  (.iaload, 50, 0, 0, 0, 0, 0), (.bipush 12, 52, 0, 0, 0, 12, 0), am_dum, (.if_icmp .ge 7, 55, 59, 0, 0, 0, 0), am_dum, am_dum, (.iconst 1, 56, 0, 0, 0, 1, 0), (.goto 4, 59, 60, 0, 0, 0, 0), am_dum, am_dum, 
  (.iconst 0, 60, 0, 0, 0, 0, 0), (.invokevirtual 168, 63, 133, 0, 1, 0, 0), am_dum, am_dum, (.aload_n 0, 64, 0, 0, 0, 0, 0), (.sipush 4016, 67, 0, 0, 0, 4016, 0), am_dum, am_dum, (.aload_n 0, 68, 0, 0, 0, 0, 0), 
  (.getfield 172, 71, 8, 22, 0, 0, 0), am_dum, am_dum, (.iadd, 72, 0, 0, 0, 0, 0), (.aload_n 0, 73, 0, 0, 0, 0, 0), (.getfield 18, 76, 8, 2, 0, 0, 0), am_dum, am_dum, (.aload_n 0, 77, 0, 0, 0, 0, 0), 
  (.getfield 154, 80, 8, 23, 0, 0, 0), am_dum, am_dum, (.baload, 81, 0, 0, 0, 0, 0), (.invokestatic 91, 84, 109, 3, 1, 0, 0), am_dum, am_dum, (.invokevirtual 80, 87, 107, 0, 2, 0, 0), am_dum, am_dum, 
  (.aload_n 0, 88, 0, 0, 0, 0, 0), (.dup, 89, 0, 0, 0, 0, 0), (.getfield 154, 92, 8, 23, 0, 0, 0), am_dum, am_dum, (.iconst 1, 93, 0, 0, 0, 1, 0), (.iadd, 94, 0, 0, 0, 0, 0), (.putfield 154, 97, 8, 23, 0, 0, 0), am_dum, am_dum, 
  (.goto (-75), 100, 22, 0, 0, 0, 0), am_dum, am_dum, (.aload_n 0, 101, 0, 0, 0, 0, 0), (.dup, 102, 0, 0, 0, 0, 0), (.getfield 172, 105, 8, 22, 0, 0, 0), am_dum, am_dum, (.aload_n 0, 106, 0, 0, 0, 0, 0), 
  (.getfield 172, 109, 8, 22, 0, 0, 0), am_dum, am_dum, (.bipush 47, 111, 0, 0, 0, 47, 0), am_dum, (.if_icmp .ge 7, 114, 118, 0, 0, 0, 0), am_dum, am_dum, (.iconst 1, 115, 0, 0, 0, 1, 0), (.goto 4, 118, 119, 0, 0, 0, 0), am_dum, 
  am_dum, (.iconst 0, 119, 0, 0, 0, 0, 0), (.iadd, 120, 0, 0, 0, 0, 0), (.putfield 172, 123, 8, 22, 0, 0, 0), am_dum, am_dum, (.aload_n 0, 124, 0, 0, 0, 0, 0), (.getfield 57, 127, 8, 20, 0, 0, 0), am_dum, am_dum, 
  (.aload_n 0, 128, 0, 0, 0, 0, 0), (.getfield 175, 131, 8, 21, 0, 0, 0), am_dum, am_dum, (.dup2, 132, 0, 0, 0, 0, 0), (.iaload, 133, 0, 0, 0, 0, 0), (.iconst 1, 134, 0, 0, 0, 1, 0), (.iadd, 135, 0, 0, 0, 0, 0), 
  (.iastore, 136, 0, 0, 0, 0, 0), (.return_, 137, 0, 0, 0, 0, 0)]
def k_Mo_readPart : List am_e := [
  (.aload_n 0, 1, 0, 0, 0, 0, 0), (.getfield 48, 4, 8, 17, 0, 0, 0), am_dum, am_dum, (.aload_n 0, 5, 0, 0, 0, 0, 0), (.getfield 175, 8, 8, 21, 0, 0, 0), am_dum, am_dum, (.iload_n 1, 9, 1, 0, 0, 0, 0), (.iastore, 10, 0, 0, 0, 0, 0), 
  (.aload_n 0, 11, 0, 0, 0, 0, 0), (.getfield 51, 14, 8, 18, 0, 0, 0), am_dum, am_dum, (.aload_n 0, 15, 0, 0, 0, 0, 0), (.getfield 175, 18, 8, 21, 0, 0, 0), am_dum, am_dum, (.iconst 0, 19, 0, 0, 0, 0, 0), 
  (.iastore, 20, 0, 0, 0, 0, 0), (.aload_n 0, 21, 0, 0, 0, 0, 0), (.getfield 54, 24, 8, 19, 0, 0, 0), am_dum, am_dum, (.aload_n 0, 25, 0, 0, 0, 0, 0), (.getfield 175, 28, 8, 21, 0, 0, 0), am_dum, am_dum, 
  (.sipush 4016, 31, 0, 0, 0, 4016, 0), am_dum, am_dum, (.aload_n 0, 32, 0, 0, 0, 0, 0), (.getfield 172, 35, 8, 22, 0, 0, 0), am_dum, am_dum, (.iadd, 36, 0, 0, 0, 0, 0), (.iastore, 37, 0, 0, 0, 0, 0), 
  (.aload_n 0, 38, 0, 0, 0, 0, 0), (.getfield 57, 41, 8, 20, 0, 0, 0), am_dum, am_dum, (.aload_n 0, 42, 0, 0, 0, 0, 0), (.getfield 175, 45, 8, 21, 0, 0, 0), am_dum, am_dum, (.iconst 0, 46, 0, 0, 0, 0, 0), 
  (.iastore, 47, 0, 0, 0, 0, 0), (.aload_n 0, 48, 0, 0, 0, 0, 0), (.invokevirtual 160, 51, 132, 0, 0, 0, 0), am_dum, am_dum, (.bipush 45, 53, 0, 0, 0, 45, 0), am_dum, (.if_icmp .ne 23, 56, 76, 0, 0, 0, 0), am_dum, am_dum, 
  (.aload_n 0, 57, 0, 0, 0, 0, 0), (.dup, 58, 0, 0, 0, 0, 0), (.getfield 154, 61, 8, 23, 0, 0, 0), am_dum, am_dum, (.iconst 1, 62, 0, 0, 0, 1, 0), (.iadd, 63, 0, 0, 0, 0, 0), (.putfield 154, 66, 8, 23, 0, 0, 0), am_dum, am_dum, 
  (.aload_n 0, 67, 0, 0, 0, 0, 0), (.getfield 51, 70, 8, 18, 0, 0, 0), am_dum, am_dum, (.aload_n 0, 71, 0, 0, 0, 0, 0), (.getfield 175, 74, 8, 21, 0, 0, 0), am_dum, am_dum, (.iconst 1, 75, 0, 0, 0, 1, 0), 
  (.iastore, 76, 0, 0, 0, 0, 0), (.aload_n 0, 77, 0, 0, 0, 0, 0), (.invokevirtual 160, 80, 132, 0, 0, 0, 0), am_dum, am_dum, (.bipush 34, 82, 0, 0, 0, 34, 0), am_dum, (.if_icmp .ne 92, 85, 174, 0, 0, 0, 0), am_dum, am_dum, 
  (.aload_n 0, 86, 0, 0, 0, 0, 0), (.dup, 87, 0, 0, 0, 0, 0), (.getfield 154, 90, 8, 23, 0, 0, 0), am_dum, am_dum, (.iconst 1, 91, 0, 0, 0, 1, 0), (.iadd, 92, 0, 0, 0, 0, 0), (.putfield 154, 95, 8, 23, 0, 0, 0), am_dum, am_dum, 
  (.aload_n 0, 96, 0, 0, 0, 0, 0), (.getfield 51, 99, 8, 18, 0, 0, 0), am_dum, am_dum, (.aload_n 0, 100, 0, 0, 0, 0, 0), (.getfield 175, 103, 8, 21, 0, 0, 0), am_dum, am_dum, (.dup2, 104, 0, 0, 0, 0, 0), 
  (.iaload, 105, 0, 0, 0, 0, 0), (.iconst 4, 106, 0, 0, 0, 4, 0), (.iadd, 107, 0, 0, 0, 0, 0), (.iastore, 108, 0, 0, 0, 0, 0), (.aload_n 0, 109, 0, 0, 0, 0, 0), (.invokevirtual 178, 112, 134, 0, 0, 0, 0), am_dum, am_dum, 
  (.iconst 1, 113, 0, 0, 0, 1, 0), (.istore_n 2, 114, 2, 0, 0, 0, 0), (.iload_n 2, 115, 2, 0, 0, 0, 0), (.ifCond .eq 46, 118, 161, 0, 0, 0, 0), am_dum, am_dum, (.aload_n 0, 119, 0, 0, 0, 0, 0), (.getfield 157, 122, 8, 24, 0, 0, 0), 
  am_dum, am_dum, (.ifCond .ge 39, 125, 161, 0, 0, 0, 0), am_dum, am_dum, (.aload_n 0, 126, 0, 0, 0, 0, 0), (.invokevirtual 181, 129, 137, 0, 0, 0, 0), am_dum, am_dum, (.aload_n 0, 130, 0, 0, 0, 0, 0), 
  (.getfield 157, 133, 8, 24, 0, 0, 0), am_dum, am_dum, (.ifCond .lt 6, 136, 139, 0, 0, 0, 0), am_dum, am_dum, (.goto (-22), 139, 114, 0, 0, 0, 0), am_dum, am_dum, (.aload_n 0, 140, 0, 0, 0, 0, 0), 
  (.invokevirtual 178, 143, 134, 0, 0, 0, 0), am_dum, am_dum, (.aload_n 0, 144, 0, 0, 0, 0, 0), (.invokevirtual 160, 147, 132, 0, 0, 0, 0), am_dum, am_dum, (.bipush 34, 149, 0, 0, 0, 34, 0), am_dum, 
  (.if_icmp .eq 7, 152, 156, 0, 0, 0, 0), am_dum, am_dum, (.iconst 1, 153, 0, 0, 0, 1, 0), (.goto 4, 156, 157, 0, 0, 0, 0), am_dum, am_dum, (.iconst 0, 157, 0, 0, 0, 0, 0), (.istore_n 2, 158, 2, 0, 0, 0, 0), 
  (.goto (-44), 161, 114, 0, 0, 0, 0), am_dum, am_dum, (.aload_n 0, 162, 0, 0, 0, 0, 0), (.dup, 163, 0, 0, 0, 0, 0), (.getfield 154, 166, 8, 23, 0, 0, 0), am_dum, am_dum, (.iconst 1, 167, 0, 0, 0, 1, 0), 
  (.iadd, 168, 0, 0, 0, 0, 0), (.putfield 154, 171, 8, 23, 0, 0, 0), am_dum, am_dum, (.goto 46, 174, 217, 0, 0, 0, 0), am_dum, am_dum, (.aload_n 0, 175, 0, 0, 0, 0, 0), (.invokevirtual 181, 178, 137, 0, 0, 0, 0), am_dum, am_dum, 
  (.aload_n 0, 179, 0, 0, 0, 0, 0), (.invokevirtual 160, 182, 132, 0, 0, 0, 0), am_dum, am_dum, (.bipush 42, 184, 0, 0, 0, 42, 0), am_dum, (.if_icmp .ne 33, 187, 217, 0, 0, 0, 0), am_dum, am_dum, (.aload_n 0, 188, 0, 0, 0, 0, 0), 
  (.getfield 157, 191, 8, 24, 0, 0, 0), am_dum, am_dum, (.ifCond .ge 26, 194, 217, 0, 0, 0, 0), am_dum, am_dum, (.aload_n 0, 195, 0, 0, 0, 0, 0), (.dup, 196, 0, 0, 0, 0, 0), (.getfield 154, 199, 8, 23, 0, 0, 0), am_dum, am_dum, 
  (.iconst 1, 200, 0, 0, 0, 1, 0), (.iadd, 201, 0, 0, 0, 0, 0), (.putfield 154, 204, 8, 23, 0, 0, 0), am_dum, am_dum, (.aload_n 0, 205, 0, 0, 0, 0, 0), (.getfield 51, 208, 8, 18, 0, 0, 0), am_dum, am_dum, 
  (.aload_n 0, 209, 0, 0, 0, 0, 0), (.getfield 175, 212, 8, 21, 0, 0, 0), am_dum, am_dum, (.dup2, 213, 0, 0, 0, 0, 0), (.iaload, 214, 0, 0, 0, 0, 0), (.iconst 2, 215, 0, 0, 0, 2, 0), (.iadd, 216, 0, 0, 0, 0, 0), 
  (.iastore, 217, 0, 0, 0, 0, 0), (.aload_n 0, 218, 0, 0, 0, 0, 0), (.dup, 219, 0, 0, 0, 0, 0), (.getfield 175, 222, 8, 21, 0, 0, 0), am_dum, am_dum, (.iconst 1, 223, 0, 0, 0, 1, 0), (.iadd, 224, 0, 0, 0, 0, 0), 
  (.putfield 175, 227, 8, 21, 0, 0, 0), am_dum, am_dum, (.return_, 228, 0, 0, 0, 0, 0)]
def k_Mo_readQuestion : List am_e := [
  (.aload_n 0, 1, 0, 0, 0, 0, 0), (.iconst 0, 2, 0, 0, 0, 0, 0), (.putfield 154, 5, 8, 23, 0, 0, 0), am_dum, am_dum, (.aload_n 0, 6, 0, 0, 0, 0, 0), (.iconst (-1), 7, 0, 0, 0, -1, 0), (.putfield 157, 10, 8, 24, 0, 0, 0), am_dum, 
  am_dum, (.aload_n 0, 11, 0, 0, 0, 0, 0), (.iconst 0, 12, 0, 0, 0, 0, 0), (.putfield 175, 15, 8, 21, 0, 0, 0), am_dum, am_dum, (.aload_n 0, 16, 0, 0, 0, 0, 0), (.iconst 0, 17, 0, 0, 0, 0, 0), (.putfield 172, 20, 8, 22, 0, 0, 0), 
  am_dum, am_dum, (.iconst 0, 21, 0, 0, 0, 0, 0), (.istore_n 1, 22, 1, 0, 0, 0, 0), (.iconst 1, 23, 0, 0, 0, 1, 0), (.istore_n 2, 24, 2, 0, 0, 0, 0), (.iload_n 2, 25, 2, 0, 0, 0, 0), (.ifCond .eq 97, 28, 122, 0, 0, 0, 0), am_dum, 
  am_dum, (.aload_n 0, 29, 0, 0, 0, 0, 0), (.getfield 157, 32, 8, 24, 0, 0, 0), am_dum, am_dum, (.ifCond .ge 90, 35, 122, 0, 0, 0, 0), am_dum, am_dum, (.aload_n 0, 36, 0, 0, 0, 0, 0), (.invokevirtual 178, 39, 134, 0, 0, 0, 0), 
  am_dum, am_dum, (.aload_n 0, 40, 0, 0, 0, 0, 0), (.aload_n 0, 41, 0, 0, 0, 0, 0), (.invokevirtual 184, 44, 136, 0, 0, 0, 0), am_dum, am_dum, (.invokevirtual 168, 47, 133, 0, 1, 0, 0), am_dum, am_dum, 
  (.aload_n 0, 48, 0, 0, 0, 0, 0), (.getfield 157, 51, 8, 24, 0, 0, 0), am_dum, am_dum, (.ifCond .ge 29, 54, 80, 0, 0, 0, 0), am_dum, am_dum, (.aload_n 0, 55, 0, 0, 0, 0, 0), (.invokevirtual 184, 58, 136, 0, 0, 0, 0), am_dum, 
  am_dum, (.ifCond .eq 22, 61, 80, 0, 0, 0, 0), am_dum, am_dum, (.aload_n 0, 62, 0, 0, 0, 0, 0), (.iload_n 1, 63, 1, 0, 0, 0, 0), (.invokevirtual 187, 66, 138, 0, 1, 0, 0), am_dum, am_dum, (.aload_n 0, 67, 0, 0, 0, 0, 0), 
  (.getfield 157, 70, 8, 24, 0, 0, 0), am_dum, am_dum, (.ifCond .ge (-23), 73, 47, 0, 0, 0, 0), am_dum, am_dum, (.aload_n 0, 74, 0, 0, 0, 0, 0), (.invokevirtual 178, 77, 134, 0, 0, 0, 0), am_dum, am_dum, 
  (.goto (-30), 80, 47, 0, 0, 0, 0), am_dum, am_dum, (.aload_n 0, 81, 0, 0, 0, 0, 0), (.invokevirtual 160, 84, 132, 0, 0, 0, 0), am_dum, am_dum, (.bipush 124, 86, 0, 0, 0, 124, 0), am_dum, (.if_icmp .ne 7, 89, 93, 0, 0, 0, 0), 
  am_dum, am_dum, (.iconst 1, 90, 0, 0, 0, 1, 0), (.goto 4, 93, 94, 0, 0, 0, 0), am_dum, am_dum, (.iconst 0, 94, 0, 0, 0, 0, 0), (.istore_n 2, 95, 2, 0, 0, 0, 0), (.iload_n 2, 96, 2, 0, 0, 0, 0), 
  (.ifCond .eq (-72), 99, 24, 0, 0, 0, 0), am_dum, am_dum, (.aload_n 0, 100, 0, 0, 0, 0, 0), (.getfield 157, 103, 8, 24, 0, 0, 0), am_dum, am_dum, (.ifCond .ge (-79), 106, 24, 0, 0, 0, 0), am_dum, am_dum, 
  (.aload_n 0, 107, 0, 0, 0, 0, 0), (.dup, 108, 0, 0, 0, 0, 0), (.getfield 154, 111, 8, 23, 0, 0, 0), am_dum, am_dum, (.iconst 1, 112, 0, 0, 0, 1, 0), (.iadd, 113, 0, 0, 0, 0, 0), (.putfield 154, 116, 8, 23, 0, 0, 0), am_dum, 
  am_dum, (.iinc 1 1, 119, 1, 0, 0, 1, 0), am_dum, am_dum, (.goto (-95), 122, 24, 0, 0, 0, 0), am_dum, am_dum, (.aload_n 0, 123, 0, 0, 0, 0, 0), (.aload_n 0, 124, 0, 0, 0, 0, 0), (.getfield 154, 127, 8, 23, 0, 0, 0), am_dum, 
  am_dum, (.aload_n 0, 128, 0, 0, 0, 0, 0), (.getfield 84, 131, 8, 3, 0, 0, 0), am_dum, am_dum, (.if_icmp .ne 7, 134, 138, 0, 0, 0, 0), am_dum, am_dum, (.iconst 1, 135, 0, 0, 0, 1, 0), (.goto 4, 138, 139, 0, 0, 0, 0), am_dum, 
  am_dum, (.iconst 0, 139, 0, 0, 0, 0, 0), (.invokevirtual 168, 142, 133, 0, 1, 0, 0), am_dum, am_dum, (.aload_n 0, 143, 0, 0, 0, 0, 0), (.iconst 0, 144, 0, 0, 0, 0, 0), (.putfield 84, 147, 8, 3, 0, 0, 0), am_dum, am_dum, 
  (.iload_n 1, 148, 1, 0, 0, 0, 0), (.iconst 1, 149, 0, 0, 0, 1, 0), (.iadd, 150, 0, 0, 0, 0, 0), (.ireturn, 151, 0, 0, 0, 0, 0)]
def k_Mo_hasPhrase : List am_e := [
  (.aload_n 0, 1, 0, 0, 0, 0, 0), (.getfield 57, 4, 8, 20, 0, 0, 0), am_dum, am_dum, (.iload_n 2, 5, 2, 0, 0, 0, 0), (.iaload, 6, 0, 0, 0, 0, 0), (.istore_n 3, 7, 3, 0, 0, 0, 0), (.iconst 0, 8, 0, 0, 0, 0, 0), 
  (.istore 4, 10, 4, 0, 0, 0, 0), am_dum, (.iload 4, 12, 4, 0, 0, 0, 0), am_dum, (.iload_n 3, 13, 3, 0, 0, 0, 0), (.iadd, 14, 0, 0, 0, 0, 0), (.aload_n 0, 15, 0, 0, 0, 0, 0), (.getfield 27, 18, 8, 6, 0, 0, 0), am_dum, am_dum, 
  (.iload_n 1, 19, 1, 0, 0, 0, 0), (.iaload, 20, 0, 0, 0, 0, 0), (.if_icmp .gt 99, 23, 119, 0, 0, 0, 0), am_dum, am_dum, (.iconst 1, 24, 0, 0, 0, 1, 0), (.istore 5, 26, 5, 0, 0, 0, 0), am_dum, (.iconst 0, 27, 0, 0, 0, 0, 0), 
  (.istore 6, 29, 6, 0, 0, 0, 0), am_dum, (.iload 6, 31, 6, 0, 0, 0, 0), am_dum, (.iload_n 3, 32, 3, 0, 0, 0, 0), (.if_icmp .ge 74, 35, 106, 0, 0, 0, 0), am_dum, am_dum, (.iload 5, 37, 5, 0, 0, 0, 0), am_dum, 
  (.ifCond .eq 69, 40, 106, 0, 0, 0, 0), am_dum, am_dum, (.aload_n 0, 41, 0, 0, 0, 0, 0), (.getfield 54, 44, 8, 19, 0, 0, 0), am_dum, am_dum, (.iload_n 2, 45, 2, 0, 0, 0, 0), (.iaload, 46, 0, 0, 0, 0, 0), 
  (.iload 6, 48, 6, 0, 0, 0, 0), am_dum, (.iadd, 49, 0, 0, 0, 0, 0), (.istore 7, 51, 7, 0, 0, 0, 0), am_dum, (.aload_n 0, 52, 0, 0, 0, 0, 0), (.aload_n 0, 53, 0, 0, 0, 0, 0), (.getfield 21, 56, 8, 4, 0, 0, 0), am_dum, am_dum, 
  (.iload_n 1, 57, 1, 0, 0, 0, 0), (.iaload, 58, 0, 0, 0, 0, 0), (.iload 7, 60, 7, 0, 0, 0, 0), am_dum, (.invokevirtual 109, 63, 113, 0, 2, 0, 0), am_dum, am_dum, (.ifCond .eq 6, 66, 69, 0, 0, 0, 0), am_dum, am_dum, 
  (.goto 34, 69, 100, 0, 0, 0, 0), am_dum, am_dum, (.aload_n 0, 70, 0, 0, 0, 0, 0), (.aload_n 0, 71, 0, 0, 0, 0, 0), (.getfield 21, 74, 8, 4, 0, 0, 0), am_dum, am_dum, (.iload_n 1, 75, 1, 0, 0, 0, 0), (.iaload, 76, 0, 0, 0, 0, 0), 
  (.iload 7, 78, 7, 0, 0, 0, 0), am_dum, (.sipush 6033, 81, 0, 0, 0, 6033, 0), am_dum, am_dum, (.invokevirtual 124, 84, 118, 0, 3, 0, 0), am_dum, am_dum, (.aload_n 0, 85, 0, 0, 0, 0, 0), (.iload_n 1, 86, 1, 0, 0, 0, 0), 
  (.iload 4, 88, 4, 0, 0, 0, 0), am_dum, (.iload 6, 90, 6, 0, 0, 0, 0), am_dum, (.iadd, 91, 0, 0, 0, 0, 0), (.sipush 6033, 94, 0, 0, 0, 6033, 0), am_dum, am_dum, (.iconst 0, 95, 0, 0, 0, 0, 0), 
  (.invokevirtual 146, 98, 128, 0, 4, 0, 0), am_dum, am_dum, (.istore 5, 100, 5, 0, 0, 0, 0), am_dum, (.iinc 6 1, 103, 6, 0, 0, 1, 0), am_dum, am_dum, (.goto (-74), 106, 29, 0, 0, 0, 0), am_dum, am_dum, 
  (.iload 5, 108, 5, 0, 0, 0, 0), am_dum, (.ifCond .eq 5, 111, 113, 0, 0, 0, 0), am_dum, am_dum, (.iconst 1, 112, 0, 0, 0, 1, 0), (.ireturn, 113, 1, 0, 0, 0, 0), (.iinc 4 1, 116, 4, 0, 0, 1, 0), am_dum, am_dum, 
  (.goto (-106), 119, 10, 0, 0, 0, 0), am_dum, am_dum, (.iconst 0, 120, 0, 0, 0, 0, 0), (.ireturn, 121, 1, 0, 0, 0, 0)]
def k_Mo_answersPart : List am_e := [
  (.aload_n 0, 1, 0, 0, 0, 0, 0), (.getfield 51, 4, 8, 18, 0, 0, 0), am_dum, am_dum, (.iload_n 2, 5, 2, 0, 0, 0, 0), (.iaload, 6, 0, 0, 0, 0, 0), (.bipush 6, 8, 0, 0, 0, 6, 0), am_dum, (.iand, 9, 0, 0, 0, 0, 0), 
  (.istore_n 3, 10, 3, 0, 0, 0, 0), (.aload_n 0, 11, 0, 0, 0, 0, 0), (.getfield 54, 14, 8, 19, 0, 0, 0), am_dum, am_dum, (.iload_n 2, 15, 2, 0, 0, 0, 0), (.iaload, 16, 0, 0, 0, 0, 0), (.istore 4, 18, 4, 0, 0, 0, 0), am_dum, 
  (.iload_n 3, 19, 3, 0, 0, 0, 0), (.iconst 4, 20, 0, 0, 0, 4, 0), (.if_icmp .ne 10, 23, 30, 0, 0, 0, 0), am_dum, am_dum, (.aload_n 0, 24, 0, 0, 0, 0, 0), (.iload_n 1, 25, 1, 0, 0, 0, 0), (.iload_n 2, 26, 2, 0, 0, 0, 0), 
  (.invokevirtual 191, 29, 140, 0, 2, 0, 0), am_dum, am_dum, (.ireturn, 30, 1, 0, 0, 0, 0), (.iload_n 3, 31, 3, 0, 0, 0, 0), (.iconst 2, 32, 0, 0, 0, 2, 0), (.if_icmp .ne 20, 35, 52, 0, 0, 0, 0), am_dum, am_dum, 
  (.aload_n 0, 36, 0, 0, 0, 0, 0), (.iload_n 1, 37, 1, 0, 0, 0, 0), (.iload 4, 39, 4, 0, 0, 0, 0), am_dum, (.iconst 1, 40, 0, 0, 0, 1, 0), (.invokevirtual 194, 43, 129, 0, 3, 0, 0), am_dum, am_dum, 
  (.ifCond .le 7, 46, 50, 0, 0, 0, 0), am_dum, am_dum, (.iconst 1, 47, 0, 0, 0, 1, 0), (.goto 4, 50, 51, 0, 0, 0, 0), am_dum, am_dum, (.iconst 0, 51, 0, 0, 0, 0, 0), (.ireturn, 52, 1, 0, 0, 0, 0), (.aload_n 0, 53, 0, 0, 0, 0, 0), 
  (.aload_n 0, 54, 0, 0, 0, 0, 0), (.getfield 21, 57, 8, 4, 0, 0, 0), am_dum, am_dum, (.iload_n 1, 58, 1, 0, 0, 0, 0), (.iaload, 59, 0, 0, 0, 0, 0), (.iload 4, 61, 4, 0, 0, 0, 0), am_dum, (.invokevirtual 109, 64, 113, 0, 2, 0, 0), 
  am_dum, am_dum, (.ifCond .eq 5, 67, 69, 0, 0, 0, 0), am_dum, am_dum, (.iconst 0, 68, 0, 0, 0, 0, 0), (.ireturn, 69, 1, 0, 0, 0, 0), (.aload_n 0, 70, 0, 0, 0, 0, 0), (.aload_n 0, 71, 0, 0, 0, 0, 0), 
  (.getfield 21, 74, 8, 4, 0, 0, 0), am_dum, am_dum, (.iload_n 1, 75, 1, 0, 0, 0, 0), (.iaload, 76, 0, 0, 0, 0, 0), (.iload 4, 78, 4, 0, 0, 0, 0), am_dum, (.sipush 6033, 81, 0, 0, 0, 6033, 0), am_dum, am_dum, 
  (.invokevirtual 124, 84, 118, 0, 3, 0, 0), am_dum, am_dum, (.aload_n 0, 85, 0, 0, 0, 0, 0), (.iload_n 1, 86, 1, 0, 0, 0, 0), (.sipush 6033, 89, 0, 0, 0, 6033, 0), am_dum, am_dum, (.iconst 0, 90, 0, 0, 0, 0, 0), 
  (.invokevirtual 194, 93, 129, 0, 3, 0, 0), am_dum, am_dum, (.ifCond .le 7, 96, 100, 0, 0, 0, 0), am_dum, am_dum, (.iconst 1, 97, 0, 0, 0, 1, 0), (.goto 4, 100, 101, 0, 0, 0, 0), am_dum, am_dum, (.iconst 0, 101, 0, 0, 0, 0, 0), 
  (.ireturn, 102, 1, 0, 0, 0, 0)]
def k_Mo_answersRow : List am_e := [
  (.iconst 0, 1, 0, 0, 0, 0, 0), (.istore_n 3, 2, 3, 0, 0, 0, 0), (.iload_n 3, 3, 3, 0, 0, 0, 0), (.aload_n 0, 4, 0, 0, 0, 0, 0), (.getfield 175, 7, 8, 21, 0, 0, 0), am_dum, am_dum, (.if_icmp .ge 46, 10, 53, 0, 0, 0, 0), am_dum, 
  am_dum, (.aload_n 0, 11, 0, 0, 0, 0, 0), (.getfield 48, 14, 8, 17, 0, 0, 0), am_dum, am_dum, (.iload_n 3, 15, 3, 0, 0, 0, 0), (.iaload, 16, 0, 0, 0, 0, 0), (.iload_n 2, 17, 2, 0, 0, 0, 0), (.if_icmp .ne 30, 20, 47, 0, 0, 0, 0), 
  am_dum, am_dum, (.aload_n 0, 21, 0, 0, 0, 0, 0), (.iload_n 1, 22, 1, 0, 0, 0, 0), (.iload_n 3, 23, 3, 0, 0, 0, 0), (.invokevirtual 198, 26, 141, 0, 2, 0, 0), am_dum, am_dum, (.aload_n 0, 27, 0, 0, 0, 0, 0), 
  (.getfield 51, 30, 8, 18, 0, 0, 0), am_dum, am_dum, (.iload_n 3, 31, 3, 0, 0, 0, 0), (.iaload, 32, 0, 0, 0, 0, 0), (.iconst 2, 33, 0, 0, 0, 2, 0), (.irem, 34, 0, 0, 0, 0, 0), (.ifCond .ne 7, 37, 41, 0, 0, 0, 0), am_dum, am_dum, 
  (.iconst 1, 38, 0, 0, 0, 1, 0), (.goto 4, 41, 42, 0, 0, 0, 0), am_dum, am_dum, (.iconst 0, 42, 0, 0, 0, 0, 0), (.if_icmp .eq 5, 45, 47, 0, 0, 0, 0), am_dum, am_dum, (.iconst 0, 46, 0, 0, 0, 0, 0), (.ireturn, 47, 1, 0, 0, 0, 0), 
  (.iinc 3 1, 50, 3, 0, 0, 1, 0), am_dum, am_dum, (.goto (-48), 53, 2, 0, 0, 0, 0), am_dum, am_dum, (.iconst 1, 54, 0, 0, 0, 1, 0), (.ireturn, 55, 1, 0, 0, 0, 0)]
def k_Mo_isAsked : List am_e := [
  (.aload_n 0, 1, 0, 0, 0, 0, 0), (.getfield 21, 4, 8, 4, 0, 0, 0), am_dum, am_dum, (.iload_n 1, 5, 1, 0, 0, 0, 0), (.iaload, 6, 0, 0, 0, 0, 0), (.iload_n 2, 7, 2, 0, 0, 0, 0), (.if_icmp .ne 21, 10, 28, 0, 0, 0, 0), am_dum, am_dum, 
  (.iload_n 3, 11, 3, 0, 0, 0, 0), (.ifCond .lt 13, 14, 24, 0, 0, 0, 0), am_dum, am_dum, (.aload_n 0, 15, 0, 0, 0, 0, 0), (.getfield 24, 18, 8, 5, 0, 0, 0), am_dum, am_dum, (.iload_n 1, 19, 1, 0, 0, 0, 0), 
  (.iaload, 20, 0, 0, 0, 0, 0), (.iload_n 3, 21, 3, 0, 0, 0, 0), (.if_icmp .ne 7, 24, 28, 0, 0, 0, 0), am_dum, am_dum, (.iconst 1, 25, 0, 0, 0, 1, 0), (.goto 4, 28, 29, 0, 0, 0, 0), am_dum, am_dum, (.iconst 0, 29, 0, 0, 0, 0, 0), 
  (.ireturn, 30, 1, 0, 0, 0, 0)]
def k_Mo_countStems : List am_e := [
  (.iconst 0, 1, 0, 0, 0, 0, 0), (.istore_n 2, 2, 2, 0, 0, 0, 0), (.iconst 0, 3, 0, 0, 0, 0, 0), (.istore_n 3, 4, 3, 0, 0, 0, 0), (.iload_n 3, 5, 3, 0, 0, 0, 0), (.aload_n 0, 6, 0, 0, 0, 0, 0), (.getfield 175, 9, 8, 21, 0, 0, 0), 
  am_dum, am_dum, (.if_icmp .ge 112, 12, 121, 0, 0, 0, 0), am_dum, am_dum, (.aload_n 0, 13, 0, 0, 0, 0, 0), (.getfield 51, 16, 8, 18, 0, 0, 0), am_dum, am_dum, (.iload_n 3, 17, 3, 0, 0, 0, 0), (.iaload, 18, 0, 0, 0, 0, 0), 
  (.ifCond .ne 97, 21, 115, 0, 0, 0, 0), am_dum, am_dum, (.aload_n 0, 22, 0, 0, 0, 0, 0), (.iload_n 1, 23, 1, 0, 0, 0, 0), (.aload_n 0, 24, 0, 0, 0, 0, 0), (.getfield 54, 27, 8, 19, 0, 0, 0), am_dum, am_dum, 
  (.iload_n 3, 28, 3, 0, 0, 0, 0), (.iaload, 29, 0, 0, 0, 0, 0), (.invokevirtual 109, 32, 113, 0, 2, 0, 0), am_dum, am_dum, (.ifCond .eq 6, 35, 38, 0, 0, 0, 0), am_dum, am_dum, (.goto 80, 38, 115, 0, 0, 0, 0), am_dum, am_dum, 
  (.aload_n 0, 39, 0, 0, 0, 0, 0), (.iload_n 1, 40, 1, 0, 0, 0, 0), (.aload_n 0, 41, 0, 0, 0, 0, 0), (.getfield 54, 44, 8, 19, 0, 0, 0), am_dum, am_dum, (.iload_n 3, 45, 3, 0, 0, 0, 0), (.iaload, 46, 0, 0, 0, 0, 0), 
  (.sipush 4064, 49, 0, 0, 0, 4064, 0), am_dum, am_dum, (.iload_n 2, 50, 2, 0, 0, 0, 0), (.iadd, 51, 0, 0, 0, 0, 0), (.invokevirtual 124, 54, 118, 0, 3, 0, 0), am_dum, am_dum, (.iconst 0, 55, 0, 0, 0, 0, 0), 
  (.istore 4, 57, 4, 0, 0, 0, 0), am_dum, (.iconst 0, 58, 0, 0, 0, 0, 0), (.istore 5, 60, 5, 0, 0, 0, 0), am_dum, (.iload 5, 62, 5, 0, 0, 0, 0), am_dum, (.iload_n 2, 63, 2, 0, 0, 0, 0), (.if_icmp .ge 39, 66, 102, 0, 0, 0, 0), 
  am_dum, am_dum, (.iload 4, 68, 4, 0, 0, 0, 0), am_dum, (.ifCond .ne 21, 71, 89, 0, 0, 0, 0), am_dum, am_dum, (.aload_n 0, 72, 0, 0, 0, 0, 0), (.sipush 4064, 75, 0, 0, 0, 4064, 0), am_dum, am_dum, (.iload 5, 77, 5, 0, 0, 0, 0), 
  am_dum, (.iadd, 78, 0, 0, 0, 0, 0), (.sipush 4064, 81, 0, 0, 0, 4064, 0), am_dum, am_dum, (.iload_n 2, 82, 2, 0, 0, 0, 0), (.iadd, 83, 0, 0, 0, 0, 0), (.invokevirtual 98, 86, 105, 0, 2, 0, 0), am_dum, am_dum, 
  (.ifCond .eq 7, 89, 93, 0, 0, 0, 0), am_dum, am_dum, (.iconst 1, 90, 0, 0, 0, 1, 0), (.goto 4, 93, 94, 0, 0, 0, 0), am_dum, am_dum, (.iconst 0, 94, 0, 0, 0, 0, 0), (.istore 4, 96, 4, 0, 0, 0, 0), am_dum, 
  (.iinc 5 1, 99, 5, 0, 0, 1, 0), am_dum, am_dum, (.goto (-39), 102, 60, 0, 0, 0, 0), am_dum, am_dum, (.iload_n 2, 103, 2, 0, 0, 0, 0), (.iload 4, 105, 4, 0, 0, 0, 0), am_dum, (.ifCond .eq 7, 108, 112, 0, 0, 0, 0), am_dum, am_dum, 
  (.iconst 0, 109, 0, 0, 0, 0, 0), (.goto 4, 112, 113, 0, 0, 0, 0), am_dum, am_dum, (.iconst 1, 113, 0, 0, 0, 1, 0), (.iadd, 114, 0, 0, 0, 0, 0), (.istore_n 2, 115, 2, 0, 0, 0, 0), (.iinc 3 1, 118, 3, 0, 0, 1, 0), am_dum, am_dum, 
  (.goto (-114), 121, 4, 0, 0, 0, 0), am_dum, am_dum, (.iload_n 2, 122, 2, 0, 0, 0, 0), (.ireturn, 123, 0, 0, 0, 0, 0)]
def k_Mo_scoreOf : List am_e := [
  (.lconst 0, 1, 0, 0, 0, 0, 0), (.lstore 5, 3, 5, 0, 0, 0, 0), am_dum, (.iconst 0, 4, 0, 0, 0, 0, 0), (.istore 7, 6, 7, 0, 0, 0, 0), am_dum, (.iload 7, 8, 7, 0, 0, 0, 0), am_dum, (.iload 4, 10, 4, 0, 0, 0, 0), am_dum, 
  (.if_icmp .ge 98, 13, 108, 0, 0, 0, 0), am_dum, am_dum, (.iconst 0, 14, 0, 0, 0, 0, 0), (.istore 8, 16, 8, 0, 0, 0, 0), am_dum, (.iconst 0, 17, 0, 0, 0, 0, 0), (.istore 9, 19, 9, 0, 0, 0, 0), am_dum, 
  (.iload 9, 21, 9, 0, 0, 0, 0), am_dum, (.aload_n 0, 22, 0, 0, 0, 0, 0), (.getfield 131, 25, 8, 9, 0, 0, 0), am_dum, am_dum, (.if_icmp .ge 46, 28, 71, 0, 0, 0, 0), am_dum, am_dum, (.iload 8, 30, 8, 0, 0, 0, 0), am_dum, 
  (.aload_n 0, 31, 0, 0, 0, 0, 0), (.iload 9, 33, 9, 0, 0, 0, 0), am_dum, (.iload_n 2, 34, 2, 0, 0, 0, 0), (.iload_n 3, 35, 3, 0, 0, 0, 0), (.invokevirtual 201, 38, 143, 0, 3, 0, 0), am_dum, am_dum, 
  (.ifCond .eq 23, 41, 61, 0, 0, 0, 0), am_dum, am_dum, (.aload_n 0, 42, 0, 0, 0, 0, 0), (.iload 9, 44, 9, 0, 0, 0, 0), am_dum, (.sipush 4064, 47, 0, 0, 0, 4064, 0), am_dum, am_dum, (.iload 7, 49, 7, 0, 0, 0, 0), am_dum, 
  (.iadd, 50, 0, 0, 0, 0, 0), (.iconst 0, 51, 0, 0, 0, 0, 0), (.invokevirtual 194, 54, 129, 0, 3, 0, 0), am_dum, am_dum, (.ifCond .le 7, 57, 61, 0, 0, 0, 0), am_dum, am_dum, (.iconst 1, 58, 0, 0, 0, 1, 0), 
  (.goto 4, 61, 62, 0, 0, 0, 0), am_dum, am_dum, (.iconst 0, 62, 0, 0, 0, 0, 0), (.iadd, 63, 0, 0, 0, 0, 0), (.istore 8, 65, 8, 0, 0, 0, 0), am_dum, (.iinc 9 1, 68, 9, 0, 0, 1, 0), am_dum, am_dum, (.goto (-49), 71, 19, 0, 0, 0, 0), 
  am_dum, am_dum, (.iload 8, 73, 8, 0, 0, 0, 0), am_dum, (.ifCond .le 29, 76, 102, 0, 0, 0, 0), am_dum, am_dum, (.lload 5, 78, 5, 0, 0, 0, 0), am_dum, (.aload_n 0, 79, 0, 0, 0, 0, 0), (.iload_n 1, 80, 1, 0, 0, 0, 0), 
  (.sipush 4064, 83, 0, 0, 0, 4064, 0), am_dum, am_dum, (.iload 7, 85, 7, 0, 0, 0, 0), am_dum, (.iadd, 86, 0, 0, 0, 0, 0), (.iconst 0, 87, 0, 0, 0, 0, 0), (.invokevirtual 194, 90, 129, 0, 3, 0, 0), am_dum, am_dum, 
  (.i2l, 91, 0, 0, 0, 0, 0), (.ldc2_w 204, 94, 0, 0, 0, 0, 5342931457063200), am_dum, am_dum, (.iload 8, 96, 8, 0, 0, 0, 0), am_dum, (.i2l, 97, 0, 0, 0, 0, 0), (.ldiv, 98, 0, 0, 0, 0, 0), (.lmul, 99, 0, 0, 0, 0, 0), 
  (.ladd, 100, 0, 0, 0, 0, 0), (.lstore 5, 102, 5, 0, 0, 0, 0), am_dum, (.iinc 7 1, 105, 7, 0, 0, 1, 0), am_dum, am_dum, (.goto (-99), 108, 6, 0, 0, 0, 0), am_dum, am_dum, (.lload 5, 110, 5, 0, 0, 0, 0), am_dum, 
  (.lreturn, 111, 0, 0, 0, 0, 0)]
def k_Mo_ask : List am_e := [
  (.iload_n 1, 1, 1, 0, 0, 0, 0), (.invokestatic 102, 4, 112, 3, 1, 0, 0), am_dum, am_dum, (.ifCond .eq 13, 7, 17, 0, 0, 0, 0), am_dum, am_dum, (.iload_n 2, 8, 2, 0, 0, 0, 0), (.iconst (-1), 9, 0, 0, 0, -1, 0), 
  (.if_icmp .lt 8, 12, 17, 0, 0, 0, 0), am_dum, am_dum, (.iload_n 2, 13, 2, 0, 0, 0, 0), (.iconst 4, 14, 0, 0, 0, 4, 0), (.if_icmp .lt 5, 17, 19, 0, 0, 0, 0), am_dum, am_dum, (.iconst (-1), 18, 0, 0, 0, -1, 0), 
  (.ireturn, 19, 0, 0, 0, 0, 0), (.aload_n 0, 20, 0, 0, 0, 0, 0), (.invokevirtual 206, 23, 139, 0, 0, 0, 0), am_dum, am_dum, (.istore_n 3, 24, 3, 0, 0, 0, 0), (.aload_n 0, 25, 0, 0, 0, 0, 0), (.getfield 157, 28, 8, 24, 0, 0, 0), 
  am_dum, am_dum, (.ifCond .lt 11, 31, 39, 0, 0, 0, 0), am_dum, am_dum, (.bipush (-10), 33, 0, 0, 0, -10, 0), am_dum, (.aload_n 0, 34, 0, 0, 0, 0, 0), (.getfield 157, 37, 8, 24, 0, 0, 0), am_dum, am_dum, (.isub, 38, 0, 0, 0, 0, 0), 
  (.ireturn, 39, 0, 0, 0, 0, 0), (.aload_n 0, 40, 0, 0, 0, 0, 0), (.iconst 0, 41, 0, 0, 0, 0, 0), (.putfield 209, 44, 8, 27, 0, 0, 0), am_dum, am_dum, (.aload_n 0, 45, 0, 0, 0, 0, 0), (.iload_n 1, 46, 1, 0, 0, 0, 0), 
  (.invokevirtual 212, 49, 144, 0, 1, 0, 0), am_dum, am_dum, (.istore 4, 51, 4, 0, 0, 0, 0), am_dum, (.iconst 0, 52, 0, 0, 0, 0, 0), (.istore 5, 54, 5, 0, 0, 0, 0), am_dum, (.iload 5, 56, 5, 0, 0, 0, 0), am_dum, 
  (.aload_n 0, 57, 0, 0, 0, 0, 0), (.getfield 131, 60, 8, 9, 0, 0, 0), am_dum, am_dum, (.if_icmp .ge 168, 63, 228, 0, 0, 0, 0), am_dum, am_dum, (.aload_n 0, 64, 0, 0, 0, 0, 0), (.iload 5, 66, 5, 0, 0, 0, 0), am_dum, 
  (.iload_n 1, 67, 1, 0, 0, 0, 0), (.iload_n 2, 68, 2, 0, 0, 0, 0), (.invokevirtual 201, 71, 143, 0, 3, 0, 0), am_dum, am_dum, (.ifCond .ne 6, 74, 77, 0, 0, 0, 0), am_dum, am_dum, (.goto 148, 77, 222, 0, 0, 0, 0), am_dum, am_dum, 
  (.iconst 0, 78, 0, 0, 0, 0, 0), (.istore 6, 80, 6, 0, 0, 0, 0), am_dum, (.iconst 0, 81, 0, 0, 0, 0, 0), (.istore 7, 83, 7, 0, 0, 0, 0), am_dum, (.iload 7, 85, 7, 0, 0, 0, 0), am_dum, (.iload_n 3, 86, 3, 0, 0, 0, 0), 
  (.if_icmp .ge 24, 89, 110, 0, 0, 0, 0), am_dum, am_dum, (.iload 6, 91, 6, 0, 0, 0, 0), am_dum, (.ifCond .ne 19, 94, 110, 0, 0, 0, 0), am_dum, am_dum, (.aload_n 0, 95, 0, 0, 0, 0, 0), (.iload 5, 97, 5, 0, 0, 0, 0), am_dum, 
  (.iload 7, 99, 7, 0, 0, 0, 0), am_dum, (.invokevirtual 215, 102, 142, 0, 2, 0, 0), am_dum, am_dum, (.istore 6, 104, 6, 0, 0, 0, 0), am_dum, (.iinc 7 1, 107, 7, 0, 0, 1, 0), am_dum, am_dum, (.goto (-24), 110, 83, 0, 0, 0, 0), 
  am_dum, am_dum, (.iload 6, 112, 6, 0, 0, 0, 0), am_dum, (.ifCond .ne 6, 115, 118, 0, 0, 0, 0), am_dum, am_dum, (.goto 107, 118, 222, 0, 0, 0, 0), am_dum, am_dum, (.aload_n 0, 119, 0, 0, 0, 0, 0), (.iload 5, 121, 5, 0, 0, 0, 0), 
  am_dum, (.iload_n 1, 122, 1, 0, 0, 0, 0), (.iload_n 2, 123, 2, 0, 0, 0, 0), (.iload 4, 125, 4, 0, 0, 0, 0), am_dum, (.invokevirtual 218, 128, 145, 0, 4, 0, 0), am_dum, am_dum, (.lstore 7, 130, 7, 0, 0, 0, 0), am_dum, 
  (.aload_n 0, 131, 0, 0, 0, 0, 0), (.getfield 209, 134, 8, 27, 0, 0, 0), am_dum, am_dum, (.istore 9, 136, 9, 0, 0, 0, 0), am_dum, (.iload 9, 138, 9, 0, 0, 0, 0), am_dum, (.ifCond .le 56, 141, 194, 0, 0, 0, 0), am_dum, am_dum, 
  (.aload_n 0, 142, 0, 0, 0, 0, 0), (.getfield 63, 145, 8, 26, 0, 0, 0), am_dum, am_dum, (.iload 9, 147, 9, 0, 0, 0, 0), am_dum, (.iconst 1, 148, 0, 0, 0, 1, 0), (.isub, 149, 0, 0, 0, 0, 0), (.laload, 150, 0, 0, 0, 0, 0), 
  (.lload 7, 152, 7, 0, 0, 0, 0), am_dum, (.lcmp, 153, 0, 0, 0, 0, 0), (.ifCond .ge 41, 156, 194, 0, 0, 0, 0), am_dum, am_dum, (.aload_n 0, 157, 0, 0, 0, 0, 0), (.getfield 63, 160, 8, 26, 0, 0, 0), am_dum, am_dum, 
  (.iload 9, 162, 9, 0, 0, 0, 0), am_dum, (.aload_n 0, 163, 0, 0, 0, 0, 0), (.getfield 63, 166, 8, 26, 0, 0, 0), am_dum, am_dum, (.iload 9, 168, 9, 0, 0, 0, 0), am_dum, (.iconst 1, 169, 0, 0, 0, 1, 0), (.isub, 170, 0, 0, 0, 0, 0), 
  (.laload, 171, 0, 0, 0, 0, 0), (.lastore, 172, 0, 0, 0, 0, 0), (.aload_n 0, 173, 0, 0, 0, 0, 0), (.getfield 60, 176, 8, 25, 0, 0, 0), am_dum, am_dum, (.iload 9, 178, 9, 0, 0, 0, 0), am_dum, (.aload_n 0, 179, 0, 0, 0, 0, 0), 
  (.getfield 60, 182, 8, 25, 0, 0, 0), am_dum, am_dum, (.iload 9, 184, 9, 0, 0, 0, 0), am_dum, (.iconst 1, 185, 0, 0, 0, 1, 0), (.isub, 186, 0, 0, 0, 0, 0), (.iaload, 187, 0, 0, 0, 0, 0), (.iastore, 188, 0, 0, 0, 0, 0), 
  (.iinc 9 (-1), 191, 9, 0, 0, -1, 0), am_dum, am_dum, (.goto (-55), 194, 136, 0, 0, 0, 0), am_dum, am_dum, (.aload_n 0, 195, 0, 0, 0, 0, 0), (.getfield 63, 198, 8, 26, 0, 0, 0), am_dum, am_dum, (.iload 9, 200, 9, 0, 0, 0, 0), 
  am_dum, (.lload 7, 202, 7, 0, 0, 0, 0), am_dum, (.lastore, 203, 0, 0, 0, 0, 0), (.aload_n 0, 204, 0, 0, 0, 0, 0), (.getfield 60, 207, 8, 25, 0, 0, 0), am_dum, am_dum, (.iload 9, 209, 9, 0, 0, 0, 0), am_dum, 
  (.iload 5, 211, 5, 0, 0, 0, 0), am_dum, (.iastore, 212, 0, 0, 0, 0, 0), (.aload_n 0, 213, 0, 0, 0, 0, 0), (.dup, 214, 0, 0, 0, 0, 0), (.getfield 209, 217, 8, 27, 0, 0, 0), am_dum, am_dum, (.iconst 1, 218, 0, 0, 0, 1, 0), 
  (.iadd, 219, 0, 0, 0, 0, 0), (.putfield 209, 222, 8, 27, 0, 0, 0), am_dum, am_dum, (.iinc 5 1, 225, 5, 0, 0, 1, 0), am_dum, am_dum, (.goto (-171), 228, 54, 0, 0, 0, 0), am_dum, am_dum, (.aload_n 0, 229, 0, 0, 0, 0, 0), 
  (.getfield 209, 232, 8, 27, 0, 0, 0), am_dum, am_dum, (.ireturn, 233, 0, 0, 0, 0, 0)]
def k_Mo_answer : List am_e := [
  (.iload_n 1, 1, 1, 0, 0, 0, 0), (.ifCond .lt 20, 4, 21, 0, 0, 0, 0), am_dum, am_dum, (.iload_n 1, 5, 1, 0, 0, 0, 0), (.aload_n 0, 6, 0, 0, 0, 0, 0), (.getfield 209, 9, 8, 27, 0, 0, 0), am_dum, am_dum, 
  (.if_icmp .ge 12, 12, 21, 0, 0, 0, 0), am_dum, am_dum, (.aload_n 0, 13, 0, 0, 0, 0, 0), (.getfield 60, 16, 8, 25, 0, 0, 0), am_dum, am_dum, (.iload_n 1, 17, 1, 0, 0, 0, 0), (.iaload, 18, 0, 0, 0, 0, 0), 
  (.goto 5, 21, 23, 0, 0, 0, 0), am_dum, am_dum, (.bipush (-2), 23, 0, 0, 0, -2, 0), am_dum, (.ireturn, 24, 0, 0, 0, 0, 0)]
def k_Mo_score : List am_e := [
  (.iload_n 1, 1, 1, 0, 0, 0, 0), (.ifCond .lt 20, 4, 21, 0, 0, 0, 0), am_dum, am_dum, (.iload_n 1, 5, 1, 0, 0, 0, 0), (.aload_n 0, 6, 0, 0, 0, 0, 0), (.getfield 209, 9, 8, 27, 0, 0, 0), am_dum, am_dum, 
  (.if_icmp .ge 12, 12, 21, 0, 0, 0, 0), am_dum, am_dum, (.aload_n 0, 13, 0, 0, 0, 0, 0), (.getfield 63, 16, 8, 26, 0, 0, 0), am_dum, am_dum, (.iload_n 1, 17, 1, 0, 0, 0, 0), (.laload, 18, 0, 0, 0, 0, 0), 
  (.goto 4, 21, 22, 0, 0, 0, 0), am_dum, am_dum, (.lconst 0, 22, 0, 0, 0, 0, 0), (.lreturn, 23, 0, 0, 0, 0, 0)]
def k_Mo_distance : List am_e := [
  (.iconst 0, 1, 0, 0, 0, 0, 0), (.istore_n 3, 2, 3, 0, 0, 0, 0), (.iload_n 3, 3, 3, 0, 0, 0, 0), (.aload_n 0, 4, 0, 0, 0, 0, 0), (.getfield 14, 7, 8, 1, 0, 0, 0), am_dum, am_dum, (.iload_n 1, 8, 1, 0, 0, 0, 0), 
  (.iaload, 9, 0, 0, 0, 0, 0), (.if_icmp .gt 176, 12, 185, 0, 0, 0, 0), am_dum, am_dum, (.iconst 0, 13, 0, 0, 0, 0, 0), (.istore 4, 15, 4, 0, 0, 0, 0), am_dum, (.iload 4, 17, 4, 0, 0, 0, 0), am_dum, (.aload_n 0, 18, 0, 0, 0, 0, 0), 
  (.getfield 14, 21, 8, 1, 0, 0, 0), am_dum, am_dum, (.iload_n 2, 22, 2, 0, 0, 0, 0), (.iaload, 23, 0, 0, 0, 0, 0), (.if_icmp .gt 156, 26, 179, 0, 0, 0, 0), am_dum, am_dum, (.iload_n 3, 27, 3, 0, 0, 0, 0), 
  (.ifCond .ne 8, 30, 35, 0, 0, 0, 0), am_dum, am_dum, (.iload 4, 32, 4, 0, 0, 0, 0), am_dum, (.goto 4, 35, 36, 0, 0, 0, 0), am_dum, am_dum, (.iload_n 3, 36, 3, 0, 0, 0, 0), (.istore 5, 38, 5, 0, 0, 0, 0), am_dum, 
  (.iload_n 3, 39, 3, 0, 0, 0, 0), (.ifCond .le 120, 42, 159, 0, 0, 0, 0), am_dum, am_dum, (.iload 4, 44, 4, 0, 0, 0, 0), am_dum, (.ifCond .le 115, 47, 159, 0, 0, 0, 0), am_dum, am_dum, (.aload_n 0, 48, 0, 0, 0, 0, 0), 
  (.getfield 73, 51, 8, 32, 0, 0, 0), am_dum, am_dum, (.bipush 13, 53, 0, 0, 0, 13, 0), am_dum, (.iload_n 3, 54, 3, 0, 0, 0, 0), (.imul, 55, 0, 0, 0, 0, 0), (.iload 4, 57, 4, 0, 0, 0, 0), am_dum, (.iadd, 58, 0, 0, 0, 0, 0), 
  (.bipush 14, 60, 0, 0, 0, 14, 0), am_dum, (.isub, 61, 0, 0, 0, 0, 0), (.iaload, 62, 0, 0, 0, 0, 0), (.aload_n 0, 63, 0, 0, 0, 0, 0), (.iload_n 1, 64, 1, 0, 0, 0, 0), (.iload_n 3, 65, 3, 0, 0, 0, 0), 
  (.iconst 1, 66, 0, 0, 0, 1, 0), (.isub, 67, 0, 0, 0, 0, 0), (.invokevirtual 76, 70, 104, 0, 2, 0, 0), am_dum, am_dum, (.aload_n 0, 71, 0, 0, 0, 0, 0), (.iload_n 2, 72, 2, 0, 0, 0, 0), (.iload 4, 74, 4, 0, 0, 0, 0), am_dum, 
  (.iconst 1, 75, 0, 0, 0, 1, 0), (.isub, 76, 0, 0, 0, 0, 0), (.invokevirtual 76, 79, 104, 0, 2, 0, 0), am_dum, am_dum, (.if_icmp .ne 7, 82, 86, 0, 0, 0, 0), am_dum, am_dum, (.iconst 0, 83, 0, 0, 0, 0, 0), 
  (.goto 4, 86, 87, 0, 0, 0, 0), am_dum, am_dum, (.iconst 1, 87, 0, 0, 0, 1, 0), (.iadd, 88, 0, 0, 0, 0, 0), (.istore 6, 90, 6, 0, 0, 0, 0), am_dum, (.aload_n 0, 91, 0, 0, 0, 0, 0), (.getfield 73, 94, 8, 32, 0, 0, 0), am_dum, 
  am_dum, (.bipush 13, 96, 0, 0, 0, 13, 0), am_dum, (.iload_n 3, 97, 3, 0, 0, 0, 0), (.imul, 98, 0, 0, 0, 0, 0), (.iload 4, 100, 4, 0, 0, 0, 0), am_dum, (.iadd, 101, 0, 0, 0, 0, 0), (.bipush 13, 103, 0, 0, 0, 13, 0), am_dum, 
  (.isub, 104, 0, 0, 0, 0, 0), (.iaload, 105, 0, 0, 0, 0, 0), (.iconst 1, 106, 0, 0, 0, 1, 0), (.iadd, 107, 0, 0, 0, 0, 0), (.istore 7, 109, 7, 0, 0, 0, 0), am_dum, (.aload_n 0, 110, 0, 0, 0, 0, 0), 
  (.getfield 73, 113, 8, 32, 0, 0, 0), am_dum, am_dum, (.bipush 13, 115, 0, 0, 0, 13, 0), am_dum, (.iload_n 3, 116, 3, 0, 0, 0, 0), (.imul, 117, 0, 0, 0, 0, 0), (.iload 4, 119, 4, 0, 0, 0, 0), am_dum, (.iadd, 120, 0, 0, 0, 0, 0), 
  (.iconst 1, 121, 0, 0, 0, 1, 0), (.isub, 122, 0, 0, 0, 0, 0), (.iaload, 123, 0, 0, 0, 0, 0), (.iconst 1, 124, 0, 0, 0, 1, 0), (.iadd, 125, 0, 0, 0, 0, 0), (.istore 8, 127, 8, 0, 0, 0, 0), am_dum, (.iload 6, 129, 6, 0, 0, 0, 0), 
  am_dum, (.iload 7, 131, 7, 0, 0, 0, 0), am_dum, (.if_icmp .ge 8, 134, 139, 0, 0, 0, 0), am_dum, am_dum, (.iload 6, 136, 6, 0, 0, 0, 0), am_dum, (.goto 5, 139, 141, 0, 0, 0, 0), am_dum, am_dum, (.iload 7, 141, 7, 0, 0, 0, 0), 
  am_dum, (.istore 5, 143, 5, 0, 0, 0, 0), am_dum, (.iload 5, 145, 5, 0, 0, 0, 0), am_dum, (.iload 8, 147, 8, 0, 0, 0, 0), am_dum, (.if_icmp .ge 8, 150, 155, 0, 0, 0, 0), am_dum, am_dum, (.iload 5, 152, 5, 0, 0, 0, 0), am_dum, 
  (.goto 5, 155, 157, 0, 0, 0, 0), am_dum, am_dum, (.iload 8, 157, 8, 0, 0, 0, 0), am_dum, (.istore 5, 159, 5, 0, 0, 0, 0), am_dum, (.aload_n 0, 160, 0, 0, 0, 0, 0), (.getfield 73, 163, 8, 32, 0, 0, 0), am_dum, am_dum, 
  (.bipush 13, 165, 0, 0, 0, 13, 0), am_dum, (.iload_n 3, 166, 3, 0, 0, 0, 0), (.imul, 167, 0, 0, 0, 0, 0), (.iload 4, 169, 4, 0, 0, 0, 0), am_dum, (.iadd, 170, 0, 0, 0, 0, 0), (.iload 5, 172, 5, 0, 0, 0, 0), am_dum, 
  (.iastore, 173, 0, 0, 0, 0, 0), (.iinc 4 1, 176, 4, 0, 0, 1, 0), am_dum, am_dum, (.goto (-161), 179, 15, 0, 0, 0, 0), am_dum, am_dum, (.iinc 3 1, 182, 3, 0, 0, 1, 0), am_dum, am_dum, (.goto (-180), 185, 2, 0, 0, 0, 0), am_dum, 
  am_dum, (.aload_n 0, 186, 0, 0, 0, 0, 0), (.getfield 73, 189, 8, 32, 0, 0, 0), am_dum, am_dum, (.bipush 13, 191, 0, 0, 0, 13, 0), am_dum, (.aload_n 0, 192, 0, 0, 0, 0, 0), (.getfield 14, 195, 8, 1, 0, 0, 0), am_dum, am_dum, 
  (.iload_n 1, 196, 1, 0, 0, 0, 0), (.iaload, 197, 0, 0, 0, 0, 0), (.imul, 198, 0, 0, 0, 0, 0), (.aload_n 0, 199, 0, 0, 0, 0, 0), (.getfield 14, 202, 8, 1, 0, 0, 0), am_dum, am_dum, (.iload_n 2, 203, 2, 0, 0, 0, 0), 
  (.iaload, 204, 0, 0, 0, 0, 0), (.iadd, 205, 0, 0, 0, 0, 0), (.iaload, 206, 0, 0, 0, 0, 0), (.ireturn, 207, 0, 0, 0, 0, 0)]
def k_Mo_isBefore : List am_e := [
  (.iconst 0, 1, 0, 0, 0, 0, 0), (.istore_n 3, 2, 3, 0, 0, 0, 0), (.iload_n 3, 3, 3, 0, 0, 0, 0), (.aload_n 0, 4, 0, 0, 0, 0, 0), (.getfield 14, 7, 8, 1, 0, 0, 0), am_dum, am_dum, (.iload_n 1, 8, 1, 0, 0, 0, 0), 
  (.iaload, 9, 0, 0, 0, 0, 0), (.if_icmp .ge 55, 12, 64, 0, 0, 0, 0), am_dum, am_dum, (.iload_n 3, 13, 3, 0, 0, 0, 0), (.aload_n 0, 14, 0, 0, 0, 0, 0), (.getfield 14, 17, 8, 1, 0, 0, 0), am_dum, am_dum, 
  (.iload_n 2, 18, 2, 0, 0, 0, 0), (.iaload, 19, 0, 0, 0, 0, 0), (.if_icmp .ge 45, 22, 64, 0, 0, 0, 0), am_dum, am_dum, (.aload_n 0, 23, 0, 0, 0, 0, 0), (.iload_n 1, 24, 1, 0, 0, 0, 0), (.iload_n 3, 25, 3, 0, 0, 0, 0), 
  (.invokevirtual 76, 28, 104, 0, 2, 0, 0), am_dum, am_dum, (.aload_n 0, 29, 0, 0, 0, 0, 0), (.iload_n 2, 30, 2, 0, 0, 0, 0), (.iload_n 3, 31, 3, 0, 0, 0, 0), (.invokevirtual 76, 34, 104, 0, 2, 0, 0), am_dum, am_dum, 
  (.if_icmp .eq 24, 37, 58, 0, 0, 0, 0), am_dum, am_dum, (.aload_n 0, 38, 0, 0, 0, 0, 0), (.iload_n 1, 39, 1, 0, 0, 0, 0), (.iload_n 3, 40, 3, 0, 0, 0, 0), (.invokevirtual 76, 43, 104, 0, 2, 0, 0), am_dum, am_dum, 
  (.aload_n 0, 44, 0, 0, 0, 0, 0), (.iload_n 2, 45, 2, 0, 0, 0, 0), (.iload_n 3, 46, 3, 0, 0, 0, 0), (.invokevirtual 76, 49, 104, 0, 2, 0, 0), am_dum, am_dum, (.if_icmp .ge 7, 52, 56, 0, 0, 0, 0), am_dum, am_dum, 
  (.iconst 1, 53, 0, 0, 0, 1, 0), (.goto 4, 56, 57, 0, 0, 0, 0), am_dum, am_dum, (.iconst 0, 57, 0, 0, 0, 0, 0), (.ireturn, 58, 1, 0, 0, 0, 0), (.iinc 3 1, 61, 3, 0, 0, 1, 0), am_dum, am_dum, (.goto (-59), 64, 2, 0, 0, 0, 0), 
  am_dum, am_dum, (.aload_n 0, 65, 0, 0, 0, 0, 0), (.getfield 14, 68, 8, 1, 0, 0, 0), am_dum, am_dum, (.iload_n 1, 69, 1, 0, 0, 0, 0), (.iaload, 70, 0, 0, 0, 0, 0), (.aload_n 0, 71, 0, 0, 0, 0, 0), 
  (.getfield 14, 74, 8, 1, 0, 0, 0), am_dum, am_dum, (.iload_n 2, 75, 2, 0, 0, 0, 0), (.iaload, 76, 0, 0, 0, 0, 0), (.if_icmp .ge 7, 79, 83, 0, 0, 0, 0), am_dum, am_dum, (.iconst 1, 80, 0, 0, 0, 1, 0), 
  (.goto 4, 83, 84, 0, 0, 0, 0), am_dum, am_dum, (.iconst 0, 84, 0, 0, 0, 0, 0), (.ireturn, 85, 1, 0, 0, 0, 0)]
def k_Mo_like : List am_e := [
  (.iload_n 1, 1, 1, 0, 0, 0, 0), (.invokestatic 102, 4, 112, 3, 1, 0, 0), am_dum, am_dum, (.ifCond .eq 12, 7, 16, 0, 0, 0, 0), am_dum, am_dum, (.iload_n 2, 8, 2, 0, 0, 0, 0), (.ifCond .lt 8, 11, 16, 0, 0, 0, 0), am_dum, am_dum, 
  (.iload_n 2, 12, 2, 0, 0, 0, 0), (.iconst 3, 13, 0, 0, 0, 3, 0), (.if_icmp .le 5, 16, 18, 0, 0, 0, 0), am_dum, am_dum, (.iconst (-1), 17, 0, 0, 0, -1, 0), (.ireturn, 18, 0, 0, 0, 0, 0), (.aload_n 0, 19, 0, 0, 0, 0, 0), 
  (.invokevirtual 106, 22, 111, 0, 0, 0, 0), am_dum, am_dum, (.aload_n 0, 23, 0, 0, 0, 0, 0), (.iconst 0, 24, 0, 0, 0, 0, 0), (.putfield 222, 27, 8, 29, 0, 0, 0), am_dum, am_dum, (.aload_n 0, 28, 0, 0, 0, 0, 0), 
  (.getfield 88, 31, 8, 14, 0, 0, 0), am_dum, am_dum, (.ifCond .ne 6, 34, 37, 0, 0, 0, 0), am_dum, am_dum, (.bipush (-2), 36, 0, 0, 0, -2, 0), am_dum, (.ireturn, 37, 0, 0, 0, 0, 0), (.aload_n 0, 38, 0, 0, 0, 0, 0), 
  (.sipush 3968, 41, 0, 0, 0, 3968, 0), am_dum, am_dum, (.sipush 6032, 44, 0, 0, 0, 6032, 0), am_dum, am_dum, (.invokevirtual 112, 47, 108, 0, 2, 0, 0), am_dum, am_dum, (.iconst 0, 48, 0, 0, 0, 0, 0), 
  (.istore_n 3, 49, 3, 0, 0, 0, 0), (.iload_n 3, 50, 3, 0, 0, 0, 0), (.aload_n 0, 51, 0, 0, 0, 0, 0), (.getfield 131, 54, 8, 9, 0, 0, 0), am_dum, am_dum, (.if_icmp .ge 214, 57, 268, 0, 0, 0, 0), am_dum, am_dum, 
  (.iconst 0, 58, 0, 0, 0, 0, 0), (.istore 4, 60, 4, 0, 0, 0, 0), am_dum, (.iload 4, 62, 4, 0, 0, 0, 0), am_dum, (.aload_n 0, 63, 0, 0, 0, 0, 0), (.getfield 27, 66, 8, 6, 0, 0, 0), am_dum, am_dum, (.iload_n 3, 67, 3, 0, 0, 0, 0), 
  (.iaload, 68, 0, 0, 0, 0, 0), (.if_icmp .ge 194, 71, 262, 0, 0, 0, 0), am_dum, am_dum, (.aload_n 0, 72, 0, 0, 0, 0, 0), (.getfield 21, 75, 8, 4, 0, 0, 0), am_dum, am_dum, (.iload_n 3, 76, 3, 0, 0, 0, 0), 
  (.iaload, 77, 0, 0, 0, 0, 0), (.iload_n 1, 78, 1, 0, 0, 0, 0), (.if_icmp .ne 184, 81, 262, 0, 0, 0, 0), am_dum, am_dum, (.bipush 48, 83, 0, 0, 0, 48, 0), am_dum, (.iload_n 3, 84, 3, 0, 0, 0, 0), (.imul, 85, 0, 0, 0, 0, 0), 
  (.iload 4, 87, 4, 0, 0, 0, 0), am_dum, (.iadd, 88, 0, 0, 0, 0, 0), (.istore 5, 90, 5, 0, 0, 0, 0), am_dum, (.aload_n 0, 91, 0, 0, 0, 0, 0), (.iload 5, 93, 5, 0, 0, 0, 0), am_dum, (.sipush 6032, 96, 0, 0, 0, 6032, 0), am_dum, 
  am_dum, (.invokevirtual 225, 99, 149, 0, 2, 0, 0), am_dum, am_dum, (.istore 6, 101, 6, 0, 0, 0, 0), am_dum, (.iload 6, 103, 6, 0, 0, 0, 0), am_dum, (.iload_n 2, 104, 2, 0, 0, 0, 0), (.if_icmp .gt 152, 107, 256, 0, 0, 0, 0), 
  am_dum, am_dum, (.aload_n 0, 108, 0, 0, 0, 0, 0), (.iload_n 1, 109, 1, 0, 0, 0, 0), (.iload 5, 111, 5, 0, 0, 0, 0), am_dum, (.invokevirtual 109, 114, 113, 0, 2, 0, 0), am_dum, am_dum, (.ifCond .ne 142, 117, 256, 0, 0, 0, 0), 
  am_dum, am_dum, (.aload_n 0, 118, 0, 0, 0, 0, 0), (.iload 5, 120, 5, 0, 0, 0, 0), am_dum, (.invokevirtual 228, 123, 152, 0, 1, 0, 0), am_dum, am_dum, (.ifCond .eq 6, 126, 129, 0, 0, 0, 0), am_dum, am_dum, 
  (.goto 130, 129, 256, 0, 0, 0, 0), am_dum, am_dum, (.aload_n 0, 130, 0, 0, 0, 0, 0), (.getfield 222, 133, 8, 29, 0, 0, 0), am_dum, am_dum, (.istore 7, 135, 7, 0, 0, 0, 0), am_dum, (.iload 7, 137, 7, 0, 0, 0, 0), am_dum, 
  (.ifCond .le 88, 140, 225, 0, 0, 0, 0), am_dum, am_dum, (.aload_n 0, 141, 0, 0, 0, 0, 0), (.getfield 67, 144, 8, 28, 0, 0, 0), am_dum, am_dum, (.iload 7, 146, 7, 0, 0, 0, 0), am_dum, (.iconst 1, 147, 0, 0, 0, 1, 0), 
  (.isub, 148, 0, 0, 0, 0, 0), (.iaload, 149, 0, 0, 0, 0, 0), (.iload 6, 151, 6, 0, 0, 0, 0), am_dum, (.if_icmp .gt 34, 154, 185, 0, 0, 0, 0), am_dum, am_dum, (.aload_n 0, 155, 0, 0, 0, 0, 0), (.getfield 67, 158, 8, 28, 0, 0, 0), 
  am_dum, am_dum, (.iload 7, 160, 7, 0, 0, 0, 0), am_dum, (.iconst 1, 161, 0, 0, 0, 1, 0), (.isub, 162, 0, 0, 0, 0, 0), (.iaload, 163, 0, 0, 0, 0, 0), (.iload 6, 165, 6, 0, 0, 0, 0), am_dum, (.if_icmp .ne 60, 168, 225, 0, 0, 0, 0), 
  am_dum, am_dum, (.aload_n 0, 169, 0, 0, 0, 0, 0), (.iload 5, 171, 5, 0, 0, 0, 0), am_dum, (.sipush 4112, 174, 0, 0, 0, 4112, 0), am_dum, am_dum, (.iload 7, 176, 7, 0, 0, 0, 0), am_dum, (.iadd, 177, 0, 0, 0, 0, 0), 
  (.iconst 1, 178, 0, 0, 0, 1, 0), (.isub, 179, 0, 0, 0, 0, 0), (.invokevirtual 231, 182, 150, 0, 2, 0, 0), am_dum, am_dum, (.ifCond .eq 43, 185, 225, 0, 0, 0, 0), am_dum, am_dum, (.aload_n 0, 186, 0, 0, 0, 0, 0), 
  (.getfield 67, 189, 8, 28, 0, 0, 0), am_dum, am_dum, (.iload 7, 191, 7, 0, 0, 0, 0), am_dum, (.aload_n 0, 192, 0, 0, 0, 0, 0), (.getfield 67, 195, 8, 28, 0, 0, 0), am_dum, am_dum, (.iload 7, 197, 7, 0, 0, 0, 0), am_dum, 
  (.iconst 1, 198, 0, 0, 0, 1, 0), (.isub, 199, 0, 0, 0, 0, 0), (.iaload, 200, 0, 0, 0, 0, 0), (.iastore, 201, 0, 0, 0, 0, 0), (.aload_n 0, 202, 0, 0, 0, 0, 0), (.sipush 4112, 205, 0, 0, 0, 4112, 0), am_dum, am_dum, 
  (.iload 7, 207, 7, 0, 0, 0, 0), am_dum, (.iadd, 208, 0, 0, 0, 0, 0), (.iconst 1, 209, 0, 0, 0, 1, 0), (.isub, 210, 0, 0, 0, 0, 0), (.sipush 4112, 213, 0, 0, 0, 4112, 0), am_dum, am_dum, (.iload 7, 215, 7, 0, 0, 0, 0), am_dum, 
  (.iadd, 216, 0, 0, 0, 0, 0), (.invokevirtual 112, 219, 108, 0, 2, 0, 0), am_dum, am_dum, (.iinc 7 (-1), 222, 7, 0, 0, -1, 0), am_dum, am_dum, (.goto (-87), 225, 135, 0, 0, 0, 0), am_dum, am_dum, (.aload_n 0, 226, 0, 0, 0, 0, 0), 
  (.getfield 67, 229, 8, 28, 0, 0, 0), am_dum, am_dum, (.iload 7, 231, 7, 0, 0, 0, 0), am_dum, (.iload 6, 233, 6, 0, 0, 0, 0), am_dum, (.iastore, 234, 0, 0, 0, 0, 0), (.aload_n 0, 235, 0, 0, 0, 0, 0), 
  (.iload 5, 237, 5, 0, 0, 0, 0), am_dum, (.sipush 4112, 240, 0, 0, 0, 4112, 0), am_dum, am_dum, (.iload 7, 242, 7, 0, 0, 0, 0), am_dum, (.iadd, 243, 0, 0, 0, 0, 0), (.invokevirtual 112, 246, 108, 0, 2, 0, 0), am_dum, am_dum, 
  (.aload_n 0, 247, 0, 0, 0, 0, 0), (.dup, 248, 0, 0, 0, 0, 0), (.getfield 222, 251, 8, 29, 0, 0, 0), am_dum, am_dum, (.iconst 1, 252, 0, 0, 0, 1, 0), (.iadd, 253, 0, 0, 0, 0, 0), (.putfield 222, 256, 8, 29, 0, 0, 0), am_dum, 
  am_dum, (.iinc 4 1, 259, 4, 0, 0, 1, 0), am_dum, am_dum, (.goto (-199), 262, 60, 0, 0, 0, 0), am_dum, am_dum, (.iinc 3 1, 265, 3, 0, 0, 1, 0), am_dum, am_dum, (.goto (-216), 268, 49, 0, 0, 0, 0), am_dum, am_dum, 
  (.aload_n 0, 269, 0, 0, 0, 0, 0), (.getfield 222, 272, 8, 29, 0, 0, 0), am_dum, am_dum, (.ireturn, 273, 0, 0, 0, 0, 0)]
def k_Mo_isLiked : List am_e := [
  (.iconst 0, 1, 0, 0, 0, 0, 0), (.istore_n 2, 2, 2, 0, 0, 0, 0), (.iload_n 2, 3, 2, 0, 0, 0, 0), (.aload_n 0, 4, 0, 0, 0, 0, 0), (.getfield 222, 7, 8, 29, 0, 0, 0), am_dum, am_dum, (.if_icmp .ge 24, 10, 31, 0, 0, 0, 0), am_dum, 
  am_dum, (.aload_n 0, 11, 0, 0, 0, 0, 0), (.sipush 4112, 14, 0, 0, 0, 4112, 0), am_dum, am_dum, (.iload_n 2, 15, 2, 0, 0, 0, 0), (.iadd, 16, 0, 0, 0, 0, 0), (.iload_n 1, 17, 1, 0, 0, 0, 0), 
  (.invokevirtual 98, 20, 105, 0, 2, 0, 0), am_dum, am_dum, (.ifCond .eq 5, 23, 25, 0, 0, 0, 0), am_dum, am_dum, (.iconst 1, 24, 0, 0, 0, 1, 0), (.ireturn, 25, 1, 0, 0, 0, 0), (.iinc 2 1, 28, 2, 0, 0, 1, 0), am_dum, am_dum, 
  (.goto (-26), 31, 2, 0, 0, 0, 0), am_dum, am_dum, (.iconst 0, 32, 0, 0, 0, 0, 0), (.ireturn, 33, 1, 0, 0, 0, 0)]
def k_Mo_word : List am_e := [
  (.iload_n 1, 1, 1, 0, 0, 0, 0), (.ifCond .lt 23, 4, 24, 0, 0, 0, 0), am_dum, am_dum, (.iload_n 1, 5, 1, 0, 0, 0, 0), (.aload_n 0, 6, 0, 0, 0, 0, 0), (.getfield 222, 9, 8, 29, 0, 0, 0), am_dum, am_dum, 
  (.if_icmp .ge 15, 12, 24, 0, 0, 0, 0), am_dum, am_dum, (.aload_n 0, 13, 0, 0, 0, 0, 0), (.sipush 4112, 16, 0, 0, 0, 4112, 0), am_dum, am_dum, (.iload_n 1, 17, 1, 0, 0, 0, 0), (.iadd, 18, 0, 0, 0, 0, 0), 
  (.invokevirtual 128, 21, 119, 0, 1, 0, 0), am_dum, am_dum, (.goto 5, 24, 26, 0, 0, 0, 0), am_dum, am_dum, (.bipush (-2), 26, 0, 0, 0, -2, 0), am_dum, (.ireturn, 27, 0, 0, 0, 0, 0)]
def k_Law_law : List am_e := [
  (.new 7, 3, 0, 0, 0, 0, 0), am_dum, am_dum, (.dup, 4, 0, 0, 0, 0, 0), (.invokespecial 9, 7, 84, 1, 0, 0, 0), am_dum, am_dum, (.astore_n 1, 8, 1, 0, 0, 0, 0), (.new 10, 11, 8, 0, 0, 0, 0), am_dum, am_dum, 
  (.dup, 12, 0, 0, 0, 0, 0), (.invokespecial 12, 15, 103, 1, 0, 0, 0), am_dum, am_dum, (.astore_n 2, 16, 2, 0, 0, 0, 0), (.iconst 0, 17, 0, 0, 0, 0, 0), (.istore_n 3, 18, 3, 0, 0, 0, 0), (.iload_n 3, 19, 3, 0, 0, 0, 0), 
  (.aload_n 0, 20, 0, 0, 0, 0, 0), (.arraylength, 21, 0, 0, 0, 0, 0), (.iconst 4, 22, 0, 0, 0, 4, 0), (.isub, 23, 0, 0, 0, 0, 0), (.if_icmp .gt 517, 26, 540, 0, 0, 0, 0), am_dum, am_dum, (.aload_n 0, 27, 0, 0, 0, 0, 0), 
  (.iload_n 3, 28, 3, 0, 0, 0, 0), (.iaload, 29, 0, 0, 0, 0, 0), (.bipush 15, 31, 0, 0, 0, 15, 0), am_dum, (.iand, 32, 0, 0, 0, 0, 0), 
  (.tableswitch 502 0 14 #[76, 139, 172, 195, 218, 241, 264, 297, 320, 344, 377, 400, 423, 466, 479], 108, 534, 32, 0, 0, 0), am_dum, am_dum, am_dum, am_dum, am_dum, am_dum, am_dum, am_dum, am_dum, am_dum, am_dum, am_dum, am_dum, 
  am_dum, am_dum, am_dum, am_dum, am_dum, am_dum, am_dum, am_dum, am_dum, am_dum, am_dum, am_dum, am_dum, am_dum, am_dum, am_dum, am_dum, am_dum, am_dum, am_dum, am_dum, am_dum, am_dum, am_dum, am_dum, am_dum, am_dum, am_dum, 
  am_dum, am_dum, am_dum, am_dum, am_dum, am_dum, am_dum, am_dum, am_dum, am_dum, am_dum, am_dum, am_dum, am_dum, am_dum, am_dum, am_dum, am_dum, am_dum, am_dum, am_dum, am_dum, am_dum, am_dum, am_dum, am_dum, am_dum, am_dum, 
  am_dum, am_dum, am_dum, am_dum, am_dum, am_dum, (.aload_n 1, 109, 1, 0, 0, 0, 0), (.aload_n 0, 110, 0, 0, 0, 0, 0), (.iload_n 3, 111, 3, 0, 0, 0, 0), (.iconst 1, 112, 0, 0, 0, 1, 0), (.iadd, 113, 0, 0, 0, 0, 0), 
  (.iaload, 114, 0, 0, 0, 0, 0), (.i2l, 115, 0, 0, 0, 0, 0), (.bipush 32, 117, 0, 0, 0, 32, 0), am_dum, (.lshl, 118, 0, 0, 0, 0, 0), (.aload_n 0, 119, 0, 0, 0, 0, 0), (.iload_n 3, 120, 3, 0, 0, 0, 0), 
  (.iconst 2, 121, 0, 0, 0, 2, 0), (.iadd, 122, 0, 0, 0, 0, 0), (.iaload, 123, 0, 0, 0, 0, 0), (.i2l, 124, 0, 0, 0, 0, 0), (.ldc2_w 13, 127, 0, 0, 0, 0, 4294967295), am_dum, am_dum, (.land, 128, 0, 0, 0, 0, 0), 
  (.lor, 129, 0, 0, 0, 0, 0), (.aload_n 0, 130, 0, 0, 0, 0, 0), (.iload_n 3, 131, 3, 0, 0, 0, 0), (.iconst 3, 132, 0, 0, 0, 3, 0), (.iadd, 133, 0, 0, 0, 0, 0), (.iaload, 134, 0, 0, 0, 0, 0), 
  (.invokevirtual 15, 137, 85, 0, 2, 0, 0), am_dum, am_dum, (.aload_n 2, 138, 2, 0, 0, 0, 0), (.aload_n 0, 139, 0, 0, 0, 0, 0), (.iload_n 3, 140, 3, 0, 0, 0, 0), (.iconst 1, 141, 0, 0, 0, 1, 0), (.iadd, 142, 0, 0, 0, 0, 0), 
  (.iaload, 143, 0, 0, 0, 0, 0), (.i2l, 144, 0, 0, 0, 0, 0), (.bipush 32, 146, 0, 0, 0, 32, 0), am_dum, (.lshl, 147, 0, 0, 0, 0, 0), (.aload_n 0, 148, 0, 0, 0, 0, 0), (.iload_n 3, 149, 3, 0, 0, 0, 0), 
  (.iconst 2, 150, 0, 0, 0, 2, 0), (.iadd, 151, 0, 0, 0, 0, 0), (.iaload, 152, 0, 0, 0, 0, 0), (.i2l, 153, 0, 0, 0, 0, 0), (.ldc2_w 13, 156, 0, 0, 0, 0, 4294967295), am_dum, am_dum, (.land, 157, 0, 0, 0, 0, 0), 
  (.lor, 158, 0, 0, 0, 0, 0), (.aload_n 0, 159, 0, 0, 0, 0, 0), (.iload_n 3, 160, 3, 0, 0, 0, 0), (.iconst 3, 161, 0, 0, 0, 3, 0), (.iadd, 162, 0, 0, 0, 0, 0), (.iaload, 163, 0, 0, 0, 0, 0), 
  (.invokevirtual 19, 166, 110, 0, 2, 0, 0), am_dum, am_dum, (.if_icmp .eq 368, 169, 534, 0, 0, 0, 0), am_dum, am_dum, (.iconst 0, 170, 0, 0, 0, 0, 0), (.ireturn, 171, 1, 0, 0, 0, 0), (.aload_n 1, 172, 1, 0, 0, 0, 0), 
  (.aload_n 0, 173, 0, 0, 0, 0, 0), (.iload_n 3, 174, 3, 0, 0, 0, 0), (.iconst 1, 175, 0, 0, 0, 1, 0), (.iadd, 176, 0, 0, 0, 0, 0), (.iaload, 177, 0, 0, 0, 0, 0), (.aload_n 0, 178, 0, 0, 0, 0, 0), (.iload_n 3, 179, 3, 0, 0, 0, 0), 
  (.iconst 2, 180, 0, 0, 0, 2, 0), (.iadd, 181, 0, 0, 0, 0, 0), (.iaload, 182, 0, 0, 0, 0, 0), (.invokevirtual 20, 185, 86, 0, 2, 0, 0), am_dum, am_dum, (.aload_n 2, 186, 2, 0, 0, 0, 0), (.aload_n 0, 187, 0, 0, 0, 0, 0), 
  (.iload_n 3, 188, 3, 0, 0, 0, 0), (.iconst 1, 189, 0, 0, 0, 1, 0), (.iadd, 190, 0, 0, 0, 0, 0), (.iaload, 191, 0, 0, 0, 0, 0), (.aload_n 0, 192, 0, 0, 0, 0, 0), (.iload_n 3, 193, 3, 0, 0, 0, 0), (.iconst 2, 194, 0, 0, 0, 2, 0), 
  (.iadd, 195, 0, 0, 0, 0, 0), (.iaload, 196, 0, 0, 0, 0, 0), (.invokevirtual 24, 199, 122, 0, 2, 0, 0), am_dum, am_dum, (.if_icmp .eq 335, 202, 534, 0, 0, 0, 0), am_dum, am_dum, (.iconst 0, 203, 0, 0, 0, 0, 0), 
  (.ireturn, 204, 1, 0, 0, 0, 0), (.aload_n 1, 205, 1, 0, 0, 0, 0), (.aload_n 0, 206, 0, 0, 0, 0, 0), (.iload_n 3, 207, 3, 0, 0, 0, 0), (.iconst 1, 208, 0, 0, 0, 1, 0), (.iadd, 209, 0, 0, 0, 0, 0), (.iaload, 210, 0, 0, 0, 0, 0), 
  (.invokevirtual 25, 213, 87, 0, 1, 0, 0), am_dum, am_dum, (.aload_n 2, 214, 2, 0, 0, 0, 0), (.aload_n 0, 215, 0, 0, 0, 0, 0), (.iload_n 3, 216, 3, 0, 0, 0, 0), (.iconst 1, 217, 0, 0, 0, 1, 0), (.iadd, 218, 0, 0, 0, 0, 0), 
  (.iaload, 219, 0, 0, 0, 0, 0), (.invokevirtual 29, 222, 125, 0, 1, 0, 0), am_dum, am_dum, (.if_icmp .eq 312, 225, 534, 0, 0, 0, 0), am_dum, am_dum, (.iconst 0, 226, 0, 0, 0, 0, 0), (.ireturn, 227, 1, 0, 0, 0, 0), 
  (.aload_n 1, 228, 1, 0, 0, 0, 0), (.aload_n 0, 229, 0, 0, 0, 0, 0), (.iload_n 3, 230, 3, 0, 0, 0, 0), (.iconst 1, 231, 0, 0, 0, 1, 0), (.iadd, 232, 0, 0, 0, 0, 0), (.iaload, 233, 0, 0, 0, 0, 0), 
  (.invokevirtual 30, 236, 88, 0, 1, 0, 0), am_dum, am_dum, (.aload_n 2, 237, 2, 0, 0, 0, 0), (.aload_n 0, 238, 0, 0, 0, 0, 0), (.iload_n 3, 239, 3, 0, 0, 0, 0), (.iconst 1, 240, 0, 0, 0, 1, 0), (.iadd, 241, 0, 0, 0, 0, 0), 
  (.iaload, 242, 0, 0, 0, 0, 0), (.invokevirtual 33, 245, 114, 0, 1, 0, 0), am_dum, am_dum, (.if_icmp .eq 289, 248, 534, 0, 0, 0, 0), am_dum, am_dum, (.iconst 0, 249, 0, 0, 0, 0, 0), (.ireturn, 250, 1, 0, 0, 0, 0), 
  (.aload_n 1, 251, 1, 0, 0, 0, 0), (.aload_n 0, 252, 0, 0, 0, 0, 0), (.iload_n 3, 253, 3, 0, 0, 0, 0), (.iconst 1, 254, 0, 0, 0, 1, 0), (.iadd, 255, 0, 0, 0, 0, 0), (.iaload, 256, 0, 0, 0, 0, 0), 
  (.invokevirtual 34, 259, 89, 0, 1, 0, 0), am_dum, am_dum, (.aload_n 2, 260, 2, 0, 0, 0, 0), (.aload_n 0, 261, 0, 0, 0, 0, 0), (.iload_n 3, 262, 3, 0, 0, 0, 0), (.iconst 1, 263, 0, 0, 0, 1, 0), (.iadd, 264, 0, 0, 0, 0, 0), 
  (.iaload, 265, 0, 0, 0, 0, 0), (.invokevirtual 37, 268, 116, 0, 1, 0, 0), am_dum, am_dum, (.if_icmp .eq 266, 271, 534, 0, 0, 0, 0), am_dum, am_dum, (.iconst 0, 272, 0, 0, 0, 0, 0), (.ireturn, 273, 1, 0, 0, 0, 0), 
  (.aload_n 1, 274, 1, 0, 0, 0, 0), (.aload_n 0, 275, 0, 0, 0, 0, 0), (.iload_n 3, 276, 3, 0, 0, 0, 0), (.iconst 1, 277, 0, 0, 0, 1, 0), (.iadd, 278, 0, 0, 0, 0, 0), (.iaload, 279, 0, 0, 0, 0, 0), 
  (.invokevirtual 38, 282, 90, 0, 1, 0, 0), am_dum, am_dum, (.aload_n 2, 283, 2, 0, 0, 0, 0), (.aload_n 0, 284, 0, 0, 0, 0, 0), (.iload_n 3, 285, 3, 0, 0, 0, 0), (.iconst 1, 286, 0, 0, 0, 1, 0), (.iadd, 287, 0, 0, 0, 0, 0), 
  (.iaload, 288, 0, 0, 0, 0, 0), (.invokevirtual 41, 291, 120, 0, 1, 0, 0), am_dum, am_dum, (.if_icmp .eq 243, 294, 534, 0, 0, 0, 0), am_dum, am_dum, (.iconst 0, 295, 0, 0, 0, 0, 0), (.ireturn, 296, 1, 0, 0, 0, 0), 
  (.aload_n 1, 297, 1, 0, 0, 0, 0), (.aload_n 0, 298, 0, 0, 0, 0, 0), (.iload_n 3, 299, 3, 0, 0, 0, 0), (.iconst 1, 300, 0, 0, 0, 1, 0), (.iadd, 301, 0, 0, 0, 0, 0), (.iaload, 302, 0, 0, 0, 0, 0), (.aload_n 0, 303, 0, 0, 0, 0, 0), 
  (.iload_n 3, 304, 3, 0, 0, 0, 0), (.iconst 2, 305, 0, 0, 0, 2, 0), (.iadd, 306, 0, 0, 0, 0, 0), (.iaload, 307, 0, 0, 0, 0, 0), (.invokevirtual 42, 310, 91, 0, 2, 0, 0), am_dum, am_dum, (.aload_n 2, 311, 2, 0, 0, 0, 0), 
  (.aload_n 0, 312, 0, 0, 0, 0, 0), (.iload_n 3, 313, 3, 0, 0, 0, 0), (.iconst 1, 314, 0, 0, 0, 1, 0), (.iadd, 315, 0, 0, 0, 0, 0), (.iaload, 316, 0, 0, 0, 0, 0), (.aload_n 0, 317, 0, 0, 0, 0, 0), (.iload_n 3, 318, 3, 0, 0, 0, 0), 
  (.iconst 2, 319, 0, 0, 0, 2, 0), (.iadd, 320, 0, 0, 0, 0, 0), (.iaload, 321, 0, 0, 0, 0, 0), (.invokevirtual 45, 324, 146, 0, 2, 0, 0), am_dum, am_dum, (.if_icmp .eq 210, 327, 534, 0, 0, 0, 0), am_dum, am_dum, 
  (.iconst 0, 328, 0, 0, 0, 0, 0), (.ireturn, 329, 1, 0, 0, 0, 0), (.aload_n 1, 330, 1, 0, 0, 0, 0), (.aload_n 0, 331, 0, 0, 0, 0, 0), (.iload_n 3, 332, 3, 0, 0, 0, 0), (.iconst 1, 333, 0, 0, 0, 1, 0), (.iadd, 334, 0, 0, 0, 0, 0), 
  (.iaload, 335, 0, 0, 0, 0, 0), (.invokevirtual 46, 338, 92, 0, 1, 0, 0), am_dum, am_dum, (.aload_n 2, 339, 2, 0, 0, 0, 0), (.aload_n 0, 340, 0, 0, 0, 0, 0), (.iload_n 3, 341, 3, 0, 0, 0, 0), (.iconst 1, 342, 0, 0, 0, 1, 0), 
  (.iadd, 343, 0, 0, 0, 0, 0), (.iaload, 344, 0, 0, 0, 0, 0), (.invokevirtual 49, 347, 147, 0, 1, 0, 0), am_dum, am_dum, (.if_icmp .eq 187, 350, 534, 0, 0, 0, 0), am_dum, am_dum, (.iconst 0, 351, 0, 0, 0, 0, 0), 
  (.ireturn, 352, 1, 0, 0, 0, 0), (.aload_n 1, 353, 1, 0, 0, 0, 0), (.aload_n 0, 354, 0, 0, 0, 0, 0), (.iload_n 3, 355, 3, 0, 0, 0, 0), (.iconst 1, 356, 0, 0, 0, 1, 0), (.iadd, 357, 0, 0, 0, 0, 0), (.iaload, 358, 0, 0, 0, 0, 0), 
  (.invokevirtual 50, 361, 93, 0, 1, 0, 0), am_dum, am_dum, (.aload_n 2, 362, 2, 0, 0, 0, 0), (.aload_n 0, 363, 0, 0, 0, 0, 0), (.iload_n 3, 364, 3, 0, 0, 0, 0), (.iconst 1, 365, 0, 0, 0, 1, 0), (.iadd, 366, 0, 0, 0, 0, 0), 
  (.iaload, 367, 0, 0, 0, 0, 0), (.invokevirtual 54, 370, 148, 0, 1, 0, 0), am_dum, am_dum, (.lcmp, 371, 0, 0, 0, 0, 0), (.ifCond .eq 163, 374, 534, 0, 0, 0, 0), am_dum, am_dum, (.iconst 0, 375, 0, 0, 0, 0, 0), 
  (.ireturn, 376, 1, 0, 0, 0, 0), (.aload_n 1, 377, 1, 0, 0, 0, 0), (.aload_n 0, 378, 0, 0, 0, 0, 0), (.iload_n 3, 379, 3, 0, 0, 0, 0), (.iconst 1, 380, 0, 0, 0, 1, 0), (.iadd, 381, 0, 0, 0, 0, 0), (.iaload, 382, 0, 0, 0, 0, 0), 
  (.aload_n 0, 383, 0, 0, 0, 0, 0), (.iload_n 3, 384, 3, 0, 0, 0, 0), (.iconst 2, 385, 0, 0, 0, 2, 0), (.iadd, 386, 0, 0, 0, 0, 0), (.iaload, 387, 0, 0, 0, 0, 0), (.invokevirtual 55, 390, 94, 0, 2, 0, 0), am_dum, am_dum, 
  (.aload_n 2, 391, 2, 0, 0, 0, 0), (.aload_n 0, 392, 0, 0, 0, 0, 0), (.iload_n 3, 393, 3, 0, 0, 0, 0), (.iconst 1, 394, 0, 0, 0, 1, 0), (.iadd, 395, 0, 0, 0, 0, 0), (.iaload, 396, 0, 0, 0, 0, 0), (.aload_n 0, 397, 0, 0, 0, 0, 0), 
  (.iload_n 3, 398, 3, 0, 0, 0, 0), (.iconst 2, 399, 0, 0, 0, 2, 0), (.iadd, 400, 0, 0, 0, 0, 0), (.iaload, 401, 0, 0, 0, 0, 0), (.invokevirtual 58, 404, 151, 0, 2, 0, 0), am_dum, am_dum, (.if_icmp .eq 130, 407, 534, 0, 0, 0, 0), 
  am_dum, am_dum, (.iconst 0, 408, 0, 0, 0, 0, 0), (.ireturn, 409, 1, 0, 0, 0, 0), (.aload_n 1, 410, 1, 0, 0, 0, 0), (.aload_n 0, 411, 0, 0, 0, 0, 0), (.iload_n 3, 412, 3, 0, 0, 0, 0), (.iconst 1, 413, 0, 0, 0, 1, 0), 
  (.iadd, 414, 0, 0, 0, 0, 0), (.iaload, 415, 0, 0, 0, 0, 0), (.invokevirtual 59, 418, 95, 0, 1, 0, 0), am_dum, am_dum, (.aload_n 2, 419, 2, 0, 0, 0, 0), (.aload_n 0, 420, 0, 0, 0, 0, 0), (.iload_n 3, 421, 3, 0, 0, 0, 0), 
  (.iconst 1, 422, 0, 0, 0, 1, 0), (.iadd, 423, 0, 0, 0, 0, 0), (.iaload, 424, 0, 0, 0, 0, 0), (.invokevirtual 62, 427, 153, 0, 1, 0, 0), am_dum, am_dum, (.if_icmp .eq 107, 430, 534, 0, 0, 0, 0), am_dum, am_dum, 
  (.iconst 0, 431, 0, 0, 0, 0, 0), (.ireturn, 432, 1, 0, 0, 0, 0), (.aload_n 1, 433, 1, 0, 0, 0, 0), (.aload_n 0, 434, 0, 0, 0, 0, 0), (.iload_n 3, 435, 3, 0, 0, 0, 0), (.iconst 1, 436, 0, 0, 0, 1, 0), (.iadd, 437, 0, 0, 0, 0, 0), 
  (.iaload, 438, 0, 0, 0, 0, 0), (.invokevirtual 63, 441, 96, 0, 1, 0, 0), am_dum, am_dum, (.aload_n 2, 442, 2, 0, 0, 0, 0), (.aload_n 0, 443, 0, 0, 0, 0, 0), (.iload_n 3, 444, 3, 0, 0, 0, 0), (.iconst 1, 445, 0, 0, 0, 1, 0), 
  (.iadd, 446, 0, 0, 0, 0, 0), (.iaload, 447, 0, 0, 0, 0, 0), (.invokevirtual 66, 450, 121, 0, 1, 0, 0), am_dum, am_dum, (.if_icmp .eq 84, 453, 534, 0, 0, 0, 0), am_dum, am_dum, (.iconst 0, 454, 0, 0, 0, 0, 0), 
  (.ireturn, 455, 1, 0, 0, 0, 0), (.aload_n 1, 456, 1, 0, 0, 0, 0), (.aload_n 0, 457, 0, 0, 0, 0, 0), (.iload_n 3, 458, 3, 0, 0, 0, 0), (.iconst 1, 459, 0, 0, 0, 1, 0), (.iadd, 460, 0, 0, 0, 0, 0), (.iaload, 461, 0, 0, 0, 0, 0), 
  (.aload_n 0, 462, 0, 0, 0, 0, 0), (.iload_n 3, 463, 3, 0, 0, 0, 0), (.iconst 2, 464, 0, 0, 0, 2, 0), (.iadd, 465, 0, 0, 0, 0, 0), (.iaload, 466, 0, 0, 0, 0, 0), (.aload_n 0, 467, 0, 0, 0, 0, 0), (.iload_n 3, 468, 3, 0, 0, 0, 0), 
  (.iconst 3, 469, 0, 0, 0, 3, 0), (.iadd, 470, 0, 0, 0, 0, 0), (.iaload, 471, 0, 0, 0, 0, 0), (.invokevirtual 67, 474, 97, 0, 3, 0, 0), am_dum, am_dum, (.aload_n 2, 475, 2, 0, 0, 0, 0), (.aload_n 0, 476, 0, 0, 0, 0, 0), 
  (.iload_n 3, 477, 3, 0, 0, 0, 0), (.iconst 1, 478, 0, 0, 0, 1, 0), (.iadd, 479, 0, 0, 0, 0, 0), (.iaload, 480, 0, 0, 0, 0, 0), (.aload_n 0, 481, 0, 0, 0, 0, 0), (.iload_n 3, 482, 3, 0, 0, 0, 0), (.iconst 2, 483, 0, 0, 0, 2, 0), 
  (.iadd, 484, 0, 0, 0, 0, 0), (.iaload, 485, 0, 0, 0, 0, 0), (.aload_n 0, 486, 0, 0, 0, 0, 0), (.iload_n 3, 487, 3, 0, 0, 0, 0), (.iconst 3, 488, 0, 0, 0, 3, 0), (.iadd, 489, 0, 0, 0, 0, 0), (.iaload, 490, 0, 0, 0, 0, 0), 
  (.invokevirtual 71, 493, 127, 0, 3, 0, 0), am_dum, am_dum, (.if_icmp .eq 41, 496, 534, 0, 0, 0, 0), am_dum, am_dum, (.iconst 0, 497, 0, 0, 0, 0, 0), (.ireturn, 498, 1, 0, 0, 0, 0), (.aload_n 1, 499, 1, 0, 0, 0, 0), 
  (.invokevirtual 72, 502, 98, 0, 0, 0, 0), am_dum, am_dum, (.aload_n 2, 503, 2, 0, 0, 0, 0), (.invokevirtual 76, 506, 126, 0, 0, 0, 0), am_dum, am_dum, (.if_icmp .eq 28, 509, 534, 0, 0, 0, 0), am_dum, am_dum, 
  (.iconst 0, 510, 0, 0, 0, 0, 0), (.ireturn, 511, 1, 0, 0, 0, 0), (.aload_n 1, 512, 1, 0, 0, 0, 0), (.aload_n 0, 513, 0, 0, 0, 0, 0), (.iload_n 3, 514, 3, 0, 0, 0, 0), (.iconst 1, 515, 0, 0, 0, 1, 0), (.iadd, 516, 0, 0, 0, 0, 0), 
  (.iaload, 517, 0, 0, 0, 0, 0), (.invokevirtual 77, 520, 99, 0, 1, 0, 0), am_dum, am_dum, (.aload_n 2, 521, 2, 0, 0, 0, 0), (.aload_n 0, 522, 0, 0, 0, 0, 0), (.iload_n 3, 523, 3, 0, 0, 0, 0), (.iconst 1, 524, 0, 0, 0, 1, 0), 
  (.iadd, 525, 0, 0, 0, 0, 0), (.iaload, 526, 0, 0, 0, 0, 0), (.invokevirtual 80, 529, 130, 0, 1, 0, 0), am_dum, am_dum, (.if_icmp .eq 5, 532, 534, 0, 0, 0, 0), am_dum, am_dum, (.iconst 0, 533, 0, 0, 0, 0, 0), 
  (.ireturn, 534, 1, 0, 0, 0, 0), (.iinc 3 4, 537, 3, 0, 0, 4, 0), am_dum, am_dum, (.goto (-519), 540, 18, 0, 0, 0, 0), am_dum, am_dum, (.iconst 1, 541, 0, 0, 0, 1, 0), (.ireturn, 542, 1, 0, 0, 0, 0)]
def k_AL_init : List am_e := [
  (.aload_n 0, 1, 0, 0, 0, 0, 0), (.invokespecial 1, 4, 164, 1, 0, 0, 0), am_dum, am_dum, (.aload_n 0, 5, 0, 0, 0, 0, 0), (.getstatic 39, 8, 0, 0, 0, 0, 0), am_dum, am_dum, (.putfield 9, 11, 5, 1, 0, 0, 0), am_dum, am_dum, 
  (.return_, 12, 0, 0, 0, 0, 0)]
def k_AL_grow1 : List am_e := [
  (.aload_n 0, 1, 0, 0, 0, 0, 0), (.getfield 9, 4, 5, 1, 0, 0, 0), am_dum, am_dum, (.arraylength, 5, 0, 0, 0, 0, 0), (.istore_n 2, 6, 2, 0, 0, 0, 0), (.iload_n 2, 7, 2, 0, 0, 0, 0), (.ifCond .gt 13, 10, 20, 0, 0, 0, 0), am_dum, 
  am_dum, (.aload_n 0, 11, 0, 0, 0, 0, 0), (.getfield 9, 14, 5, 1, 0, 0, 0), am_dum, am_dum, (.getstatic 39, 17, 0, 0, 0, 0, 0), am_dum, am_dum, (.if_acmp .eq 28, 20, 45, 0, 0, 0, 0), am_dum, am_dum, 
  (.iload_n 2, 21, 2, 0, 0, 0, 0), (.iload_n 1, 22, 1, 0, 0, 0, 0), (.iload_n 2, 23, 2, 0, 0, 0, 0), (.isub, 24, 0, 0, 0, 0, 0), (.iload_n 2, 25, 2, 0, 0, 0, 0), (.iconst 1, 26, 0, 0, 0, 1, 0), (.ishr, 27, 0, 0, 0, 0, 0), 
  (.invokestatic 73, 30, 170, 3, 3, 0, 0), am_dum, am_dum, (.istore_n 3, 31, 3, 0, 0, 0, 0), (.aload_n 0, 32, 0, 0, 0, 0, 0), (.aload_n 0, 33, 0, 0, 0, 0, 0), (.getfield 9, 36, 5, 1, 0, 0, 0), am_dum, am_dum, 
  (.iload_n 3, 37, 3, 0, 0, 0, 0), (.invokestatic 66, 40, 166, 3, 2, 0, 0), am_dum, am_dum, (.dup_x1, 41, 0, 0, 0, 0, 0), (.putfield 9, 44, 5, 1, 0, 0, 0), am_dum, am_dum, (.areturn, 45, 0, 0, 0, 0, 0), 
  (.aload_n 0, 46, 0, 0, 0, 0, 0), (.bipush 10, 48, 0, 0, 0, 10, 0), am_dum, (.iload_n 1, 49, 1, 0, 0, 0, 0), (.invokestatic 79, 52, 0, 7, 2, 0, 0), am_dum, am_dum, (.anewarray 7, 55, 4, 0, 0, 0, 0), am_dum, am_dum, 
  (.dup_x1, 56, 0, 0, 0, 0, 0), (.putfield 9, 59, 5, 1, 0, 0, 0), am_dum, am_dum, (.areturn, 60, 0, 0, 0, 0, 0)]
def k_AL_grow2 : List am_e := [
  (.aload_n 0, 1, 0, 0, 0, 0, 0), (.aload_n 0, 2, 0, 0, 0, 0, 0), (.getfield 48, 5, 5, 2, 0, 0, 0), am_dum, am_dum, (.iconst 1, 6, 0, 0, 0, 1, 0), (.iadd, 7, 0, 0, 0, 0, 0), (.invokevirtual 69, 10, 156, 0, 1, 0, 0), am_dum, am_dum, 
  (.areturn, 11, 0, 0, 0, 0, 0)]
def k_AL_size : List am_e := [
  (.aload_n 0, 1, 0, 0, 0, 0, 0), (.getfield 48, 4, 5, 2, 0, 0, 0), am_dum, am_dum, (.ireturn, 5, 0, 0, 0, 0, 0)]
def k_AL_elementData : List am_e := [
  (.aload_n 0, 1, 0, 0, 0, 0, 0), (.getfield 9, 4, 5, 1, 0, 0, 0), am_dum, am_dum, (.iload_n 1, 5, 1, 0, 0, 0, 0), (.aaload, 6, 0, 0, 0, 0, 0), (.areturn, 7, 0, 0, 0, 0, 0)]
def k_AL_get : List am_e := [
  (.iload_n 1, 1, 1, 0, 0, 0, 0), (.aload_n 0, 2, 0, 0, 0, 0, 0), (.getfield 48, 5, 5, 2, 0, 0, 0), am_dum, am_dum, (.invokestatic 118, 8, 169, 3, 2, 0, 0), am_dum, am_dum, (.pop, 9, 0, 0, 0, 0, 0), (.aload_n 0, 10, 0, 0, 0, 0, 0), 
  (.iload_n 1, 11, 1, 0, 0, 0, 0), (.invokevirtual 123, 14, 159, 0, 1, 0, 0), am_dum, am_dum, (.areturn, 15, 0, 0, 0, 0, 0)]
def k_AL_add1 : List am_e := [
  (.iload_n 3, 1, 3, 0, 0, 0, 0), (.aload_n 2, 2, 2, 0, 0, 0, 0), (.arraylength, 3, 0, 0, 0, 0, 0), (.if_icmp .ne 8, 6, 11, 0, 0, 0, 0), am_dum, am_dum, (.aload_n 0, 7, 0, 0, 0, 0, 0), (.invokevirtual 129, 10, 157, 0, 0, 0, 0), 
  am_dum, am_dum, (.astore_n 2, 11, 2, 0, 0, 0, 0), (.aload_n 2, 12, 2, 0, 0, 0, 0), (.iload_n 3, 13, 3, 0, 0, 0, 0), (.aload_n 1, 14, 1, 0, 0, 0, 0), (.aastore, 15, 0, 0, 0, 0, 0), (.aload_n 0, 16, 0, 0, 0, 0, 0), 
  (.iload_n 3, 17, 3, 0, 0, 0, 0), (.iconst 1, 18, 0, 0, 0, 1, 0), (.iadd, 19, 0, 0, 0, 0, 0), (.putfield 48, 22, 5, 2, 0, 0, 0), am_dum, am_dum, (.return_, 23, 0, 0, 0, 0, 0)]
def k_AL_add2 : List am_e := [
  (.aload_n 0, 1, 0, 0, 0, 0, 0), (.dup, 2, 0, 0, 0, 0, 0), (.getfield 63, 5, 5, 0, 0, 0, 0), am_dum, am_dum, (.iconst 1, 6, 0, 0, 0, 1, 0), (.iadd, 7, 0, 0, 0, 0, 0), (.putfield 63, 10, 5, 0, 0, 0, 0), am_dum, am_dum, 
  (.aload_n 0, 11, 0, 0, 0, 0, 0), (.aload_n 1, 12, 1, 0, 0, 0, 0), (.aload_n 0, 13, 0, 0, 0, 0, 0), (.getfield 9, 16, 5, 1, 0, 0, 0), am_dum, am_dum, (.aload_n 0, 17, 0, 0, 0, 0, 0), (.getfield 48, 20, 5, 2, 0, 0, 0), am_dum, 
  am_dum, (.invokevirtual 131, 23, 161, 0, 3, 0, 0), am_dum, am_dum, (.iconst 1, 24, 0, 0, 0, 1, 0), (.ireturn, 25, 1, 0, 0, 0, 0)]
def k_AL_clear : List am_e := [
  (.aload_n 0, 1, 0, 0, 0, 0, 0), (.dup, 2, 0, 0, 0, 0, 0), (.getfield 63, 5, 5, 0, 0, 0, 0), am_dum, am_dum, (.iconst 1, 6, 0, 0, 0, 1, 0), (.iadd, 7, 0, 0, 0, 0, 0), (.putfield 63, 10, 5, 0, 0, 0, 0), am_dum, am_dum, 
  (.aload_n 0, 11, 0, 0, 0, 0, 0), (.getfield 9, 14, 5, 1, 0, 0, 0), am_dum, am_dum, (.astore_n 1, 15, 1, 0, 0, 0, 0), (.aload_n 0, 16, 0, 0, 0, 0, 0), (.getfield 48, 19, 5, 2, 0, 0, 0), am_dum, am_dum, 
  (.istore_n 2, 20, 2, 0, 0, 0, 0), (.aload_n 0, 21, 0, 0, 0, 0, 0), (.iconst 0, 22, 0, 0, 0, 0, 0), (.dup_x1, 23, 0, 0, 0, 0, 0), (.putfield 48, 26, 5, 2, 0, 0, 0), am_dum, am_dum, (.istore_n 3, 27, 3, 0, 0, 0, 0), 
  (.iload_n 3, 28, 3, 0, 0, 0, 0), (.iload_n 2, 29, 2, 0, 0, 0, 0), (.if_icmp .ge 13, 32, 42, 0, 0, 0, 0), am_dum, am_dum, (.aload_n 1, 33, 1, 0, 0, 0, 0), (.iload_n 3, 34, 3, 0, 0, 0, 0), (.aconst_null, 35, 0, 0, 0, 0, 0), 
  (.aastore, 36, 0, 0, 0, 0, 0), (.iinc 3 1, 39, 3, 0, 0, 1, 0), am_dum, am_dum, (.goto (-12), 42, 27, 0, 0, 0, 0), am_dum, am_dum, (.return_, 43, 0, 0, 0, 0, 0)]
def k_Ab_init : List am_e := [
  (.aload_n 0, 1, 0, 0, 0, 0, 0), (.invokespecial 1, 4, 165, 1, 0, 0, 0), am_dum, am_dum, (.aload_n 0, 5, 0, 0, 0, 0, 0), (.iconst 0, 6, 0, 0, 0, 0, 0), (.putfield 7, 9, 5, 0, 0, 0, 0), am_dum, am_dum, 
  (.return_, 10, 0, 0, 0, 0, 0)]
def k_AC_init : List am_e := [
  (.aload_n 0, 1, 0, 0, 0, 0, 0), (.invokespecial 1, 4, 0, 4, 0, 0, 0), am_dum, am_dum, (.return_, 5, 0, 0, 0, 0, 0)]
def k_Ar_copyOf1 : List am_e := [
  (.aload_n 0, 1, 0, 0, 0, 0, 0), (.iload_n 1, 2, 1, 0, 0, 0, 0), (.aload_n 0, 3, 0, 0, 0, 0, 0), (.invokevirtual 86, 6, 0, 5, 0, 0, 0), am_dum, am_dum, (.invokestatic 300, 9, 167, 3, 3, 0, 0), am_dum, am_dum, 
  (.areturn, 10, 0, 0, 0, 0, 0)]
def k_Ar_copyOf2 : List am_e := [
  (.aload_n 2, 1, 2, 0, 0, 0, 0), (.ldc 110, 3, 4, 1, 0, 0, 0), am_dum, (.if_acmp .ne 10, 6, 13, 0, 0, 0, 0), am_dum, am_dum, (.iload_n 1, 7, 1, 0, 0, 0, 0), (.anewarray 2, 10, 4, 0, 0, 0, 0), am_dum, am_dum, 
  (.goto 14, 13, 24, 0, 0, 0, 0), am_dum, am_dum, (.aload_n 2, 14, 2, 0, 0, 0, 0), (.invokevirtual 90, 17, 0, 9, 0, 0, 0), am_dum, am_dum, (.iload_n 1, 18, 1, 0, 0, 0, 0), (.invokestatic 95, 21, 0, 9, 0, 0, 0), am_dum, am_dum, 
  (.checkcast 110, 24, 99, 0, 0, 0, 0), am_dum, am_dum, (.astore_n 3, 25, 3, 0, 0, 0, 0), (.aload_n 0, 26, 0, 0, 0, 0, 0), (.iconst 0, 27, 0, 0, 0, 0, 0), (.aload_n 3, 28, 3, 0, 0, 0, 0), (.iconst 0, 29, 0, 0, 0, 0, 0), 
  (.aload_n 0, 30, 0, 0, 0, 0, 0), (.arraylength, 31, 0, 0, 0, 0, 0), (.iload_n 1, 32, 1, 0, 0, 0, 0), (.invokestatic 304, 35, 0, 8, 2, 0, 0), am_dum, am_dum, (.invokestatic 150, 38, 0, 6, 5, 0, 0), am_dum, am_dum, 
  (.aload_n 3, 39, 3, 0, 0, 0, 0), (.areturn, 40, 0, 0, 0, 0, 0)]
def k_Ar_copyOf3 : List am_e := [
  (.iload_n 1, 1, 1, 0, 0, 0, 0), (.aload_n 0, 2, 0, 0, 0, 0, 0), (.arraylength, 3, 0, 0, 0, 0, 0), (.if_icmp .ne 11, 6, 14, 0, 0, 0, 0), am_dum, am_dum, (.aload_n 0, 7, 0, 0, 0, 0, 0), (.invokevirtual 319, 10, 0, 9, 0, 0, 0), 
  am_dum, am_dum, (.checkcast 320, 13, 99, 0, 0, 0, 0), am_dum, am_dum, (.areturn, 14, 0, 0, 0, 0, 0), (.iload_n 1, 15, 1, 0, 0, 0, 0), (.newarray .long, 17, 3, 0, 0, 0, 0), am_dum, (.astore_n 2, 18, 2, 0, 0, 0, 0), 
  (.aload_n 0, 19, 0, 0, 0, 0, 0), (.iconst 0, 20, 0, 0, 0, 0, 0), (.aload_n 2, 21, 2, 0, 0, 0, 0), (.iconst 0, 22, 0, 0, 0, 0, 0), (.aload_n 0, 23, 0, 0, 0, 0, 0), (.arraylength, 24, 0, 0, 0, 0, 0), 
  (.iload_n 1, 25, 1, 0, 0, 0, 0), (.invokestatic 304, 28, 0, 8, 2, 0, 0), am_dum, am_dum, (.invokestatic 150, 31, 0, 6, 5, 0, 0), am_dum, am_dum, (.aload_n 2, 32, 2, 0, 0, 0, 0), (.areturn, 33, 0, 0, 0, 0, 0)]
def k_Ob_checkIndex : List am_e := [
  (.iload_n 0, 1, 0, 0, 0, 0, 0), (.iload_n 1, 2, 1, 0, 0, 0, 0), (.aconst_null, 3, 0, 0, 0, 0, 0), (.invokestatic 105, 6, 171, 3, 3, 0, 0), am_dum, am_dum, (.ireturn, 7, 0, 0, 0, 0, 0)]
def k_AS_newLength : List am_e := [
  (.iload_n 0, 1, 0, 0, 0, 0, 0), (.iload_n 1, 2, 1, 0, 0, 0, 0), (.iload_n 2, 3, 2, 0, 0, 0, 0), (.invokestatic 194, 6, 0, 7, 2, 0, 0), am_dum, am_dum, (.iadd, 7, 0, 0, 0, 0, 0), (.istore_n 3, 8, 3, 0, 0, 0, 0), 
  (.iconst 0, 9, 0, 0, 0, 0, 0), (.iload_n 3, 10, 3, 0, 0, 0, 0), (.if_icmp .ge 11, 13, 21, 0, 0, 0, 0), am_dum, am_dum, (.iload_n 3, 14, 3, 0, 0, 0, 0), (.ldc 200, 16, 0, 0, 0, 2147483639, 0), am_dum, 
  (.if_icmp .gt 5, 19, 21, 0, 0, 0, 0), am_dum, am_dum, (.iload_n 3, 20, 3, 0, 0, 0, 0), (.ireturn, 21, 0, 0, 0, 0, 0), (.iload_n 0, 22, 0, 0, 0, 0, 0), (.iload_n 1, 23, 1, 0, 0, 0, 0), (.invokestatic 201, 26, 0, 9, 2, 0, 0), 
  am_dum, am_dum, (.ireturn, 27, 0, 0, 0, 0, 0)]
def k_Pr_checkIndex : List am_e := [
  (.iload_n 0, 1, 0, 0, 0, 0, 0), (.ifCond .lt 8, 4, 9, 0, 0, 0, 0), am_dum, am_dum, (.iload_n 0, 5, 0, 0, 0, 0, 0), (.iload_n 1, 6, 1, 0, 0, 0, 0), (.if_icmp .lt 10, 9, 16, 0, 0, 0, 0), am_dum, am_dum, 
  (.aload_n 2, 10, 2, 0, 0, 0, 0), (.iload_n 0, 11, 0, 0, 0, 0, 0), (.iload_n 1, 12, 1, 0, 0, 0, 0), (.invokestatic 95, 15, 0, 9, 0, 0, 0), am_dum, am_dum, (.athrow, 16, 0, 0, 0, 0, 0), (.iload_n 0, 17, 0, 0, 0, 0, 0), 
  (.ireturn, 18, 0, 0, 0, 0, 0)]
def am_code : List (List am_e) := [k_An_init, k_An_clear, k_An_count, k_An_add, k_An_has, k_An_textAt, k_An_weightAt, k_La_init, k_La_number, k_La_isStop, k_La_addStop, k_La_ruleCount, k_La_addRule, k_La_stemOf, k_La_isEnding, k_La_stemInTexts, k_Li_init, k_Li_clear, k_Li_count, k_Li_wordAt, k_Li_search, k_Li_offer, k_Li_holds, k_Li_insert, k_Li_standsBefore, k_Li_changesNeeded, k_Pa_init, k_Qu_init, k_Qu_read, k_Qu_skipBlanks, k_Qu_readPart, k_Qu_readPhrase, k_Qu_readWord, k_Qu_seek, k_Qu_stemSought, k_Qu_soughtBy, k_Qu_weigh, k_Qu_hasTerm, k_Qu_weightOf, k_Qu_isAnsweredBy, k_Qu_isPartAnsweredBy, k_Sh_init, k_Sh_put, k_Sh_takeAway, k_Sh_has, k_Sh_isIn, k_Sh_firstOf, k_Sh_endOf, k_Sh_stemAgain, k_Sh_hasPlace, k_Sh_startOf, k_Sh_sizeOf, k_Sh_countTexts, k_Sh_countStems, k_Sh_countNewStems, k_Sh_hasEarlier, k_Sh_timesOf, k_Sh_countTextsWith, k_Sh_hasBeginning, k_Sh_hasPhrase, k_Sh_standsAt, k_Sh_wordUnlessStop, k_Ta_init, k_Ta_length, k_Ta_append, k_Ta_clear, k_Ta_symbolAt, k_Ta_wordEnd, k_Ta_wordBetween, k_Ta_split, k_Ta_keepWord, k_Ta_wordCount, k_Ta_hasWord, k_Ta_wordAt, k_Ta_startAt, k_Ta_sizeAt, k_Wo_digitOf, k_Wo_withDigit, k_Wo_withZeros, k_Wo_withoutLast, k_Wo_lengthOf, k_Wo_symbolAt, k_Wo_isBeginning, k_Wo_spread, k_TI_init, k_TI_type, k_TI_text, k_TI_remove, k_TI_stop, k_TI_ending, k_TI_stem, k_TI_ask, k_TI_answer, k_TI_score, k_TI_like, k_TI_word, k_TI_at, k_TI_place, k_TI_texts, k_TI_stems, k_TI_languageOf, k_TI_takeFirstWord, k_TI_tell, k_Mo_init, k_Mo_byteOf, k_Mo_same, k_Mo_beginsSo, k_Mo_add, k_Mo_copy, k_Mo_letter, k_Mo_type, k_Mo_readWords, k_Mo_isLanguage, k_Mo_isStop, k_Mo_stop, k_Mo_endingAt, k_Mo_ending, k_Mo_ends, k_Mo_stemTo, k_Mo_show, k_Mo_stem, k_Mo_at, k_Mo_text, k_Mo_wordsOf, k_Mo_isText, k_Mo_remove, k_Mo_texts, k_Mo_place, k_Mo_hasAt, k_Mo_times, k_Mo_stems, k_Mo_isFirst, k_Mo_here, k_Mo_need, k_Mo_skip, k_Mo_isLetter, k_Mo_isPart, k_Mo_readWord, k_Mo_readPart, k_Mo_readQuestion, k_Mo_hasPhrase, k_Mo_answersPart, k_Mo_answersRow, k_Mo_isAsked, k_Mo_countStems, k_Mo_scoreOf, k_Mo_ask, k_Mo_answer, k_Mo_score, k_Mo_distance, k_Mo_isBefore, k_Mo_like, k_Mo_isLiked, k_Mo_word, k_Law_law, k_AL_init, k_AL_grow1, k_AL_grow2, k_AL_size, k_AL_elementData, k_AL_get, k_AL_add1, k_AL_add2, k_AL_clear, k_Ab_init, k_AC_init, k_Ar_copyOf1, k_Ar_copyOf2, k_Ar_copyOf3, k_Ob_checkIndex, k_AS_newLength, k_Pr_checkIndex]
def am_mls : List Nat := [1, 1, 1, 5, 2, 2, 2, 2, 1, 4, 3, 1, 5, 8, 11, 3, 1, 1, 1, 2, 9, 5, 4, 5, 5, 7, 6, 2, 3, 2, 5, 6, 3, 3, 6, 2, 10, 4, 6, 7, 4, 1, 6, 2, 2, 4, 2, 2, 5, 3, 3, 3, 3, 4, 6, 7, 7, 7, 6, 7, 8, 3, 1, 1, 5, 1, 2, 3, 7, 4, 3, 1, 2, 2, 2, 2, 1, 3, 6, 6, 5, 4, 5, 8, 2, 4, 5, 2, 6, 8, 5, 6, 2, 2, 5, 4, 2, 4, 1, 2, 2, 3, 3, 1, 3, 5, 5, 3, 4, 1, 5, 4, 1, 4, 4, 2, 3, 6, 7, 3, 2, 2, 4, 4, 2, 2, 1, 4, 6, 6, 5, 6, 1, 2, 1, 1, 1, 1, 3, 3, 8, 5, 4, 4, 6, 10, 10, 2, 2, 9, 4, 8, 3, 2, 4, 1, 4, 1, 1, 2, 2, 4, 2, 4, 1, 1, 2, 4, 3, 2, 4, 3]
def am_kcs : List Nat := [6, 6, 6, 6, 6, 6, 6, 2, 2, 2, 2, 2, 2, 2, 2, 2, 7, 7, 7, 7, 7, 7, 7, 7, 7, 7, 9, 4, 4, 4, 4, 4, 4, 4, 4, 4, 4, 4, 4, 4, 4, 3, 3, 3, 3, 3, 3, 3, 3, 3, 3, 3, 3, 3, 3, 3, 3, 3, 3, 3, 3, 3, 1, 1, 1, 1, 1, 1, 1, 1, 1, 1, 1, 1, 1, 1, 98, 98, 98, 98, 98, 98, 98, 98, 0, 0, 0, 0, 0, 0, 0, 0, 0, 0, 0, 0, 0, 0, 0, 0, 0, 0, 0, 8, 8, 8, 8, 8, 8, 8, 8, 8, 8, 8, 8, 8, 8, 8, 8, 8, 8, 8, 8, 8, 8, 8, 8, 8, 8, 8, 8, 8, 8, 8, 8, 8, 8, 8, 8, 8, 8, 8, 8, 8, 8, 8, 8, 8, 8, 8, 8, 8, 8, 8, 98, 5, 5, 5, 5, 5, 5, 5, 5, 5, 98, 98, 98, 98, 98, 98, 98, 98]
def am_Ds : List Nat := [1, 0, 0, 0, 0, 1, 1, 1, 0, 0, 2, 0, 0, 2, 1, 3, 1, 0, 0, 0, 3, 2, 0, 1, 0, 1, 1, 4, 9, 1, 8, 7, 2, 0, 4, 0, 4, 0, 3, 4, 3, 1, 4, 1, 0, 1, 1, 1, 4, 2, 3, 3, 1, 4, 3, 2, 2, 3, 2, 2, 0, 0, 1, 0, 0, 0, 0, 1, 1, 3, 2, 0, 0, 1, 1, 1, 0, 0, 0, 0, 0, 1, 1, 0, 5, 1, 5, 2, 5, 5, 5, 10, 2, 2, 5, 2, 2, 4, 2, 5, 0, 4, 1, 1, 0, 1, 1, 0, 1, 0, 0, 1, 0, 2, 3, 0, 2, 1, 2, 1, 3, 0, 2, 0, 0, 1, 0, 1, 3, 4, 5, 4, 0, 0, 1, 1, 2, 2, 3, 4, 4, 5, 6, 0, 3, 5, 7, 0, 0, 1, 1, 3, 2, 2, 11, 3, 3, 4, 0, 0, 2, 5, 6, 0, 2, 1, 2, 1, 1, 1, 1, 0]
def am_Los : List Nat := [20, 0, 0, 0, 0, 21, 21, 20, 0, 0, 48, 0, 0, 55, 25, 82, 20, 0, 0, 0, 72, 48, 0, 24, 0, 21, 20, 80, 206, 21, 182, 157, 48, 0, 104, 0, 94, 0, 68, 97, 74, 20, 104, 21, 0, 21, 21, 21, 104, 42, 64, 64, 21, 95, 70, 44, 42, 68, 49, 42, 0, 0, 20, 0, 0, 0, 0, 21, 22, 70, 48, 0, 0, 21, 21, 21, 0, 0, 0, 0, 0, 25, 25, 0, 101, 24, 129, 42, 128, 128, 115, 228, 42, 42, 115, 46, 48, 86, 43, 118, 0, 93, 24, 20, 0, 22, 22, 0, 22, 0, 0, 22, 0, 46, 69, 0, 45, 22, 47, 22, 73, 0, 45, 0, 0, 21, 0, 21, 73, 98, 123, 98, 0, 0, 20, 20, 40, 40, 60, 82, 98, 125, 149, 0, 73, 123, 172, 0, 0, 22, 22, 69, 46, 44, 253, 60, 70, 93, 0, 0, 43, 113, 136, 0, 40, 20, 49, 26, 26, 22, 21, 0]
def am_dfs : List (List Value) := [[.null, .null, .null, .null, .null, .null, .long 0], [.null, .int 0, .null, .null, .null, .int 0], [.int 0, .null, .null, .int 0, .null, .int 0], [.null, .null, .null, .null, .int 0, .null, .null, .null, .null, .int 0], [.null, .null, .null, .int 0, .null, .null, .int 0, .int 0, .int 0], [.int 0, .null, .int 0], [.null, .null, .int 0], [.null, .null, .int 0, .null, .int 0, .null, .null], [.null, .null, .null, .int 0, .null, .null, .null, .null, .null, .int 0, .int 0, .null, .int 0, .null, .int 0, .null, .null, .null, .null, .null, .null, .int 0, .int 0, .int 0, .int 0, .null, .null, .int 0, .null, .int 0, .null, .int 0, .null], [.null, .int 0, .int 0, .int 0, .int 0]]
def am_E (m pc : Nat) : Option am_e := match am_get am_code m with
  | some l => am_get l pc
  | none => none
def am_ml (m : Nat) : Nat := match am_get am_mls m with
  | some n => n
  | none => 0
def am_kc (m : Nat) : Nat := match am_get am_kcs m with
  | some n => n
  | none => 97
def am_D (m : Nat) : Nat := match am_get am_Ds m with
  | some n => n
  | none => 0
def am_Lo (m : Nat) : Nat := match am_get am_Los m with
  | some n => n
  | none => 0
def am_df (c : Nat) : List Value := match am_get am_dfs c with
  | some n => n
  | none => []
def am_ft (c : Nat) : Nat → FieldType := match c with
  | 0 => ty_TI
  | 1 => ty_Ta
  | 2 => ty_La
  | 3 => ty_Sh
  | 4 => ty_Qu
  | 5 => ty_AL
  | 6 => ty_An
  | 7 => ty_Li
  | 8 => ty_Mo
  | _ => ty_Pa
abbrev m_An_init : Nat := 0
abbrev m_An_clear : Nat := 1
abbrev m_An_count : Nat := 2
abbrev m_An_add : Nat := 3
abbrev m_An_has : Nat := 4
abbrev m_An_textAt : Nat := 5
abbrev m_An_weightAt : Nat := 6
abbrev m_La_init : Nat := 7
abbrev m_La_number : Nat := 8
abbrev m_La_isStop : Nat := 9
abbrev m_La_addStop : Nat := 10
abbrev m_La_ruleCount : Nat := 11
abbrev m_La_addRule : Nat := 12
abbrev m_La_stemOf : Nat := 13
abbrev m_La_isEnding : Nat := 14
abbrev m_La_stemInTexts : Nat := 15
abbrev m_Li_init : Nat := 16
abbrev m_Li_clear : Nat := 17
abbrev m_Li_count : Nat := 18
abbrev m_Li_wordAt : Nat := 19
abbrev m_Li_search : Nat := 20
abbrev m_Li_offer : Nat := 21
abbrev m_Li_holds : Nat := 22
abbrev m_Li_insert : Nat := 23
abbrev m_Li_standsBefore : Nat := 24
abbrev m_Li_changesNeeded : Nat := 25
abbrev m_Pa_init : Nat := 26
abbrev m_Qu_init : Nat := 27
abbrev m_Qu_read : Nat := 28
abbrev m_Qu_skipBlanks : Nat := 29
abbrev m_Qu_readPart : Nat := 30
abbrev m_Qu_readPhrase : Nat := 31
abbrev m_Qu_readWord : Nat := 32
abbrev m_Qu_seek : Nat := 33
abbrev m_Qu_stemSought : Nat := 34
abbrev m_Qu_soughtBy : Nat := 35
abbrev m_Qu_weigh : Nat := 36
abbrev m_Qu_hasTerm : Nat := 37
abbrev m_Qu_weightOf : Nat := 38
abbrev m_Qu_isAnsweredBy : Nat := 39
abbrev m_Qu_isPartAnsweredBy : Nat := 40
abbrev m_Sh_init : Nat := 41
abbrev m_Sh_put : Nat := 42
abbrev m_Sh_takeAway : Nat := 43
abbrev m_Sh_has : Nat := 44
abbrev m_Sh_isIn : Nat := 45
abbrev m_Sh_firstOf : Nat := 46
abbrev m_Sh_endOf : Nat := 47
abbrev m_Sh_stemAgain : Nat := 48
abbrev m_Sh_hasPlace : Nat := 49
abbrev m_Sh_startOf : Nat := 50
abbrev m_Sh_sizeOf : Nat := 51
abbrev m_Sh_countTexts : Nat := 52
abbrev m_Sh_countStems : Nat := 53
abbrev m_Sh_countNewStems : Nat := 54
abbrev m_Sh_hasEarlier : Nat := 55
abbrev m_Sh_timesOf : Nat := 56
abbrev m_Sh_countTextsWith : Nat := 57
abbrev m_Sh_hasBeginning : Nat := 58
abbrev m_Sh_hasPhrase : Nat := 59
abbrev m_Sh_standsAt : Nat := 60
abbrev m_Sh_wordUnlessStop : Nat := 61
abbrev m_Ta_init : Nat := 62
abbrev m_Ta_length : Nat := 63
abbrev m_Ta_append : Nat := 64
abbrev m_Ta_clear : Nat := 65
abbrev m_Ta_symbolAt : Nat := 66
abbrev m_Ta_wordEnd : Nat := 67
abbrev m_Ta_wordBetween : Nat := 68
abbrev m_Ta_split : Nat := 69
abbrev m_Ta_keepWord : Nat := 70
abbrev m_Ta_wordCount : Nat := 71
abbrev m_Ta_hasWord : Nat := 72
abbrev m_Ta_wordAt : Nat := 73
abbrev m_Ta_startAt : Nat := 74
abbrev m_Ta_sizeAt : Nat := 75
abbrev m_Wo_digitOf : Nat := 76
abbrev m_Wo_withDigit : Nat := 77
abbrev m_Wo_withZeros : Nat := 78
abbrev m_Wo_withoutLast : Nat := 79
abbrev m_Wo_lengthOf : Nat := 80
abbrev m_Wo_symbolAt : Nat := 81
abbrev m_Wo_isBeginning : Nat := 82
abbrev m_Wo_spread : Nat := 83
abbrev m_TI_init : Nat := 84
abbrev m_TI_type : Nat := 85
abbrev m_TI_text : Nat := 86
abbrev m_TI_remove : Nat := 87
abbrev m_TI_stop : Nat := 88
abbrev m_TI_ending : Nat := 89
abbrev m_TI_stem : Nat := 90
abbrev m_TI_ask : Nat := 91
abbrev m_TI_answer : Nat := 92
abbrev m_TI_score : Nat := 93
abbrev m_TI_like : Nat := 94
abbrev m_TI_word : Nat := 95
abbrev m_TI_at : Nat := 96
abbrev m_TI_place : Nat := 97
abbrev m_TI_texts : Nat := 98
abbrev m_TI_stems : Nat := 99
abbrev m_TI_languageOf : Nat := 100
abbrev m_TI_takeFirstWord : Nat := 101
abbrev m_TI_tell : Nat := 102
abbrev m_Mo_init : Nat := 103
abbrev m_Mo_byteOf : Nat := 104
abbrev m_Mo_same : Nat := 105
abbrev m_Mo_beginsSo : Nat := 106
abbrev m_Mo_add : Nat := 107
abbrev m_Mo_copy : Nat := 108
abbrev m_Mo_letter : Nat := 109
abbrev m_Mo_type : Nat := 110
abbrev m_Mo_readWords : Nat := 111
abbrev m_Mo_isLanguage : Nat := 112
abbrev m_Mo_isStop : Nat := 113
abbrev m_Mo_stop : Nat := 114
abbrev m_Mo_endingAt : Nat := 115
abbrev m_Mo_ending : Nat := 116
abbrev m_Mo_ends : Nat := 117
abbrev m_Mo_stemTo : Nat := 118
abbrev m_Mo_show : Nat := 119
abbrev m_Mo_stem : Nat := 120
abbrev m_Mo_at : Nat := 121
abbrev m_Mo_text : Nat := 122
abbrev m_Mo_wordsOf : Nat := 123
abbrev m_Mo_isText : Nat := 124
abbrev m_Mo_remove : Nat := 125
abbrev m_Mo_texts : Nat := 126
abbrev m_Mo_place : Nat := 127
abbrev m_Mo_hasAt : Nat := 128
abbrev m_Mo_times : Nat := 129
abbrev m_Mo_stems : Nat := 130
abbrev m_Mo_isFirst : Nat := 131
abbrev m_Mo_here : Nat := 132
abbrev m_Mo_need : Nat := 133
abbrev m_Mo_skip : Nat := 134
abbrev m_Mo_isLetter : Nat := 135
abbrev m_Mo_isPart : Nat := 136
abbrev m_Mo_readWord : Nat := 137
abbrev m_Mo_readPart : Nat := 138
abbrev m_Mo_readQuestion : Nat := 139
abbrev m_Mo_hasPhrase : Nat := 140
abbrev m_Mo_answersPart : Nat := 141
abbrev m_Mo_answersRow : Nat := 142
abbrev m_Mo_isAsked : Nat := 143
abbrev m_Mo_countStems : Nat := 144
abbrev m_Mo_scoreOf : Nat := 145
abbrev m_Mo_ask : Nat := 146
abbrev m_Mo_answer : Nat := 147
abbrev m_Mo_score : Nat := 148
abbrev m_Mo_distance : Nat := 149
abbrev m_Mo_isBefore : Nat := 150
abbrev m_Mo_like : Nat := 151
abbrev m_Mo_isLiked : Nat := 152
abbrev m_Mo_word : Nat := 153
abbrev m_Law_law : Nat := 154
abbrev m_AL_init : Nat := 155
abbrev m_AL_grow1 : Nat := 156
abbrev m_AL_grow2 : Nat := 157
abbrev m_AL_size : Nat := 158
abbrev m_AL_elementData : Nat := 159
abbrev m_AL_get : Nat := 160
abbrev m_AL_add1 : Nat := 161
abbrev m_AL_add2 : Nat := 162
abbrev m_AL_clear : Nat := 163
abbrev m_Ab_init : Nat := 164
abbrev m_AC_init : Nat := 165
abbrev m_Ar_copyOf1 : Nat := 166
abbrev m_Ar_copyOf2 : Nat := 167
abbrev m_Ar_copyOf3 : Nat := 168
abbrev m_Ob_checkIndex : Nat := 169
abbrev m_AS_newLength : Nat := 170
abbrev m_Pr_checkIndex : Nat := 171
end
section
-- facts of the tables: written by gen81.py
/-- the words that hold in every later state -/
def am_T : List Cond := lw_tbl.filter goodWord
theorem tn {w : Cond} (i : Nat) (h : lw_tbl[i]? = some w) : w ∈ lw_tbl := List.mem_of_getElem? h
theorem tm {w : Cond} (i : Nat) (h : lw_tbl[i]? = some w ∧ goodWord w = true) : w ∈ am_T := List.mem_filter.mpr ⟨List.mem_of_getElem? h.1, h.2⟩
theorem tm_sub {ws : List Cond} (ps : List Nat) (hp : ws = ps.filterMap (fun i => lw_tbl[i]?) ∧ ws.all goodWord = true) : ∀ w ∈ ws, w ∈ am_T := by
  intro w hw
  refine List.mem_filter.mpr ⟨?_, List.all_eq_true.mp hp.2 w hw⟩
  rw [hp.1] at hw
  obtain ⟨i, -, hi⟩ := List.mem_filterMap.mp hw
  exact List.mem_of_getElem? hi
theorem am_good : ∀ w ∈ am_T, (w.onTables && w.keeps) = true ∨ ∃ ty, w = .arrayClass ty := fun w hw => good_of_word (List.mem_filter.mp hw).2
theorem am_T_in : ∀ w ∈ am_T, w ∈ lw_tbl := fun w hw => (List.mem_filter.mp hw).1
abbrev am_cl : List vw_C := [("TextIndices", F_TI, 7), ("TextIndices$Tape", F_Ta, 6), ("TextIndices$Language", F_La, 6), ("TextIndices$Shelf", F_Sh, 10), ("TextIndices$Question", F_Qu, 9), ("java/util/ArrayList", F_AL, 3), ("TextIndices$Answers", F_An, 3), ("TextIndices$Likes", F_Li, 7), ("TextIndicesModel", F_Mo, 33), ("TextIndices$Part", F_Pa, 5)]
def am_ons : List String := ["TextIndices$Answers", "TextIndices$Language", "TextIndices$Likes", "TextIndices$Part", "TextIndices$Question", "TextIndices$Shelf", "TextIndices$Tape", "TextIndices$Words", "TextIndices", "TextIndicesModel", "TextIndicesLaw", "java/util/ArrayList", "java/util/AbstractList", "java/util/AbstractCollection", "java/util/Arrays", "java/util/Objects", "jdk/internal/util/ArraysSupport", "jdk/internal/util/Preconditions"]
def am_on (o : Nat) : String := match am_get am_ons o with
  | some s => s
  | none => ""
def am_ows : List Nat := [0, 0, 0, 0, 0, 0, 0, 1, 1, 1, 1, 1, 1, 1, 1, 1, 2, 2, 2, 2, 2, 2, 2, 2, 2, 2, 3, 4, 4, 4, 4, 4, 4, 4, 4, 4, 4, 4, 4, 4, 4, 5, 5, 5, 5, 5, 5, 5, 5, 5, 5, 5, 5, 5, 5, 5, 5, 5, 5, 5, 5, 5, 6, 6, 6, 6, 6, 6, 6, 6, 6, 6, 6, 6, 6, 6, 7, 7, 7, 7, 7, 7, 7, 7, 8, 8, 8, 8, 8, 8, 8, 8, 8, 8, 8, 8, 8, 8, 8, 8, 8, 8, 8, 9, 9, 9, 9, 9, 9, 9, 9, 9, 9, 9, 9, 9, 9, 9, 9, 9, 9, 9, 9, 9, 9, 9, 9, 9, 9, 9, 9, 9, 9, 9, 9, 9, 9, 9, 9, 9, 9, 9, 9, 9, 9, 9, 9, 9, 9, 9, 9, 9, 9, 9, 10, 11, 11, 11, 11, 11, 11, 11, 11, 11, 12, 13, 14, 14, 14, 15, 16, 17]
def am_ow (m : Nat) : Nat := match am_get am_ows m with
  | some s => s
  | none => 99
def am_ys : List MethodName := [y_An_init, y_An_clear, y_An_count, y_An_add, y_An_has, y_An_textAt, y_An_weightAt, y_La_init, y_La_number, y_La_isStop, y_La_addStop, y_La_ruleCount, y_La_addRule, y_La_stemOf, y_La_isEnding, y_La_stemInTexts, y_Li_init, y_Li_clear, y_Li_count, y_Li_wordAt, y_Li_search, y_Li_offer, y_Li_holds, y_Li_insert, y_Li_standsBefore, y_Li_changesNeeded, y_Pa_init, y_Qu_init, y_Qu_read, y_Qu_skipBlanks, y_Qu_readPart, y_Qu_readPhrase, y_Qu_readWord, y_Qu_seek, y_Qu_stemSought, y_Qu_soughtBy, y_Qu_weigh, y_Qu_hasTerm, y_Qu_weightOf, y_Qu_isAnsweredBy, y_Qu_isPartAnsweredBy, y_Sh_init, y_Sh_put, y_Sh_takeAway, y_Sh_has, y_Sh_isIn, y_Sh_firstOf, y_Sh_endOf, y_Sh_stemAgain, y_Sh_hasPlace, y_Sh_startOf, y_Sh_sizeOf, y_Sh_countTexts, y_Sh_countStems, y_Sh_countNewStems, y_Sh_hasEarlier, y_Sh_timesOf, y_Sh_countTextsWith, y_Sh_hasBeginning, y_Sh_hasPhrase, y_Sh_standsAt, y_Sh_wordUnlessStop, y_Ta_init, y_Ta_length, y_Ta_append, y_Ta_clear, y_Ta_symbolAt, y_Ta_wordEnd, y_Ta_wordBetween, y_Ta_split, y_Ta_keepWord, y_Ta_wordCount, y_Ta_hasWord, y_Ta_wordAt, y_Ta_startAt, y_Ta_sizeAt, y_Wo_digitOf, y_Wo_withDigit, y_Wo_withZeros, y_Wo_withoutLast, y_Wo_lengthOf, y_Wo_symbolAt, y_Wo_isBeginning, y_Wo_spread, y_TI_init, y_TI_type, y_TI_text, y_TI_remove, y_TI_stop, y_TI_ending, y_TI_stem, y_TI_ask, y_TI_answer, y_TI_score, y_TI_like, y_TI_word, y_TI_at, y_TI_place, y_TI_texts, y_TI_stems, y_TI_languageOf, y_TI_takeFirstWord, y_TI_tell, y_Mo_init, y_Mo_byteOf, y_Mo_same, y_Mo_beginsSo, y_Mo_add, y_Mo_copy, y_Mo_letter, y_Mo_type, y_Mo_readWords, y_Mo_isLanguage, y_Mo_isStop, y_Mo_stop, y_Mo_endingAt, y_Mo_ending, y_Mo_ends, y_Mo_stemTo, y_Mo_show, y_Mo_stem, y_Mo_at, y_Mo_text, y_Mo_wordsOf, y_Mo_isText, y_Mo_remove, y_Mo_texts, y_Mo_place, y_Mo_hasAt, y_Mo_times, y_Mo_stems, y_Mo_isFirst, y_Mo_here, y_Mo_need, y_Mo_skip, y_Mo_isLetter, y_Mo_isPart, y_Mo_readWord, y_Mo_readPart, y_Mo_readQuestion, y_Mo_hasPhrase, y_Mo_answersPart, y_Mo_answersRow, y_Mo_isAsked, y_Mo_countStems, y_Mo_scoreOf, y_Mo_ask, y_Mo_answer, y_Mo_score, y_Mo_distance, y_Mo_isBefore, y_Mo_like, y_Mo_isLiked, y_Mo_word, y_Law_law, y_AL_init, y_AL_grow1, y_AL_grow2, y_AL_size, y_AL_elementData, y_AL_get, y_AL_add1, y_AL_add2, y_AL_clear, y_Ab_init, y_AC_init, y_Ar_copyOf1, y_Ar_copyOf2, y_Ar_copyOf3, y_Ob_checkIndex, y_AS_newLength, y_Pr_checkIndex]
def am_y (m : Nat) : MethodName := match am_get am_ys m with
  | some s => s
  | none => ⟨"", "", ""⟩
def am_bcs : List ByteArray := [b_An_init, b_An_clear, b_An_count, b_An_add, b_An_has, b_An_textAt, b_An_weightAt, b_La_init, b_La_number, b_La_isStop, b_La_addStop, b_La_ruleCount, b_La_addRule, b_La_stemOf, b_La_isEnding, b_La_stemInTexts, b_Li_init, b_Li_clear, b_Li_count, b_Li_wordAt, b_Li_search, b_Li_offer, b_Li_holds, b_Li_insert, b_Li_standsBefore, b_Li_changesNeeded, b_Pa_init, b_Qu_init, b_Qu_read, b_Qu_skipBlanks, b_Qu_readPart, b_Qu_readPhrase, b_Qu_readWord, b_Qu_seek, b_Qu_stemSought, b_Qu_soughtBy, b_Qu_weigh, b_Qu_hasTerm, b_Qu_weightOf, b_Qu_isAnsweredBy, b_Qu_isPartAnsweredBy, b_Sh_init, b_Sh_put, b_Sh_takeAway, b_Sh_has, b_Sh_isIn, b_Sh_firstOf, b_Sh_endOf, b_Sh_stemAgain, b_Sh_hasPlace, b_Sh_startOf, b_Sh_sizeOf, b_Sh_countTexts, b_Sh_countStems, b_Sh_countNewStems, b_Sh_hasEarlier, b_Sh_timesOf, b_Sh_countTextsWith, b_Sh_hasBeginning, b_Sh_hasPhrase, b_Sh_standsAt, b_Sh_wordUnlessStop, b_Ta_init, b_Ta_length, b_Ta_append, b_Ta_clear, b_Ta_symbolAt, b_Ta_wordEnd, b_Ta_wordBetween, b_Ta_split, b_Ta_keepWord, b_Ta_wordCount, b_Ta_hasWord, b_Ta_wordAt, b_Ta_startAt, b_Ta_sizeAt, b_Wo_digitOf, b_Wo_withDigit, b_Wo_withZeros, b_Wo_withoutLast, b_Wo_lengthOf, b_Wo_symbolAt, b_Wo_isBeginning, b_Wo_spread, b_TI_init, b_TI_type, b_TI_text, b_TI_remove, b_TI_stop, b_TI_ending, b_TI_stem, b_TI_ask, b_TI_answer, b_TI_score, b_TI_like, b_TI_word, b_TI_at, b_TI_place, b_TI_texts, b_TI_stems, b_TI_languageOf, b_TI_takeFirstWord, b_TI_tell, b_Mo_init, b_Mo_byteOf, b_Mo_same, b_Mo_beginsSo, b_Mo_add, b_Mo_copy, b_Mo_letter, b_Mo_type, b_Mo_readWords, b_Mo_isLanguage, b_Mo_isStop, b_Mo_stop, b_Mo_endingAt, b_Mo_ending, b_Mo_ends, b_Mo_stemTo, b_Mo_show, b_Mo_stem, b_Mo_at, b_Mo_text, b_Mo_wordsOf, b_Mo_isText, b_Mo_remove, b_Mo_texts, b_Mo_place, b_Mo_hasAt, b_Mo_times, b_Mo_stems, b_Mo_isFirst, b_Mo_here, b_Mo_need, b_Mo_skip, b_Mo_isLetter, b_Mo_isPart, b_Mo_readWord, b_Mo_readPart, b_Mo_readQuestion, b_Mo_hasPhrase, b_Mo_answersPart, b_Mo_answersRow, b_Mo_isAsked, b_Mo_countStems, b_Mo_scoreOf, b_Mo_ask, b_Mo_answer, b_Mo_score, b_Mo_distance, b_Mo_isBefore, b_Mo_like, b_Mo_isLiked, b_Mo_word, b_Law_law, b_AL_init, b_AL_grow1, b_AL_grow2, b_AL_size, b_AL_elementData, b_AL_get, b_AL_add1, b_AL_add2, b_AL_clear, b_Ab_init, b_AC_init, b_Ar_copyOf1, b_Ar_copyOf2, b_Ar_copyOf3, b_Ob_checkIndex, b_AS_newLength, b_Pr_checkIndex]
def am_bc (m : Nat) : ByteArray := match am_get am_bcs m with
  | some s => s
  | none => ⟨#[]⟩
def am_rts : List (Option FieldType) := [none, none, (some .int), none, (some .boolean), (some .int), (some .long), none, (some .int), (some .boolean), (some .boolean), (some .int), (some .boolean), (some .long), (some .boolean), (some .long), none, none, (some .int), (some .long), none, none, (some .boolean), none, (some .boolean), (some .int), none, none, (some .int), none, (some .boolean), (some .boolean), (some .long), none, none, (some .long), none, (some .boolean), (some .long), (some .boolean), (some .boolean), none, (some .int), (some .boolean), (some .boolean), (some .boolean), (some .int), (some .int), none, (some .boolean), (some .int), (some .int), (some .int), (some .int), (some .int), (some .boolean), (some .int), (some .int), (some .boolean), (some .boolean), (some .boolean), (some .long), none, (some .int), (some .boolean), none, (some .int), (some .int), (some .long), (some .int), none, (some .int), (some .boolean), (some .long), (some .int), (some .int), (some .int), (some .long), (some .long), (some .long), (some .int), (some .int), (some .boolean), (some .int), none, (some .int), (some .int), (some .int), (some .int), (some .int), (some .int), (some .int), (some .int), (some .long), (some .int), (some .int), (some .int), (some .int), (some .int), (some .int), (some (.object "TextIndices$Language")), (some .long), (some .int), none, (some .int), (some .boolean), (some .boolean), none, none, (some .int), (some .int), none, (some .boolean), (some .boolean), (some .int), (some .int), (some .int), (some .boolean), none, (some .int), (some .int), (some .int), (some .int), (some .int), (some .boolean), (some .int), (some .int), (some .int), (some .boolean), (some .int), (some .int), (some .boolean), (some .int), none, none, (some .boolean), (some .boolean), none, none, (some .int), (some .boolean), (some .boolean), (some .boolean), (some .boolean), (some .int), (some .long), (some .int), (some .int), (some .long), (some .int), (some .boolean), (some .int), (some .boolean), (some .int), (some .boolean), none, (some (.array (.object "java/lang/Object"))), (some (.array (.object "java/lang/Object"))), (some .int), (some (.object "java/lang/Object")), (some (.object "java/lang/Object")), none, (some .boolean), none, none, none, (some (.array (.object "java/lang/Object"))), (some (.array (.object "java/lang/Object"))), (some (.array .long)), (some .int), (some .int), (some .int)]
def am_rt (m : Nat) : Option FieldType := match am_get am_rts m with
  | some s => s
  | none => none
def am_ncs : List Nat := [0, 0, 0, 2, 1, 1, 1, 1, 0, 1, 1, 0, 2, 1, 2, 1, 0, 0, 0, 1, 4, 2, 1, 2, 3, 1, 5, 1, 0, 0, 0, 1, 0, 1, 1, 1, 3, 1, 2, 2, 3, 0, 3, 1, 1, 3, 1, 1, 1, 2, 2, 2, 0, 1, 2, 3, 2, 3, 2, 4, 4, 1, 0, 0, 2, 0, 1, 1, 2, 0, 2, 0, 1, 1, 1, 1, 1, 2, 2, 2, 1, 2, 2, 2, 0, 2, 2, 1, 1, 1, 1, 2, 1, 1, 2, 1, 1, 3, 0, 1, 1, 0, 1, 0, 2, 2, 2, 2, 2, 1, 2, 0, 1, 2, 1, 2, 1, 2, 3, 1, 1, 1, 2, 1, 1, 1, 0, 3, 4, 3, 1, 3, 0, 1, 0, 0, 0, 0, 1, 0, 2, 2, 2, 3, 1, 4, 2, 1, 1, 2, 2, 2, 1, 1, 1, 0, 1, 0, 0, 1, 1, 3, 1, 0, 0, 0, 2, 3, 2, 2, 3, 3]
def am_nc (m : Nat) : Nat := match am_get am_ncs m with
  | some s => s
  | none => 0
def am_okF (q : Nat × Nat × Nat × Nat) : Prop := ∃ (C : String) (T : u_T) (N : Nat) (ref : String), am_cl[q.2.2.1]? = some (C, T, N) ∧ q.2.2.2 < N ∧ Cond.fieldLink (am_on q.1) q.2.1 ref (T q.2.2.2).2.1 (T q.2.2.2).2.2.1 ∈ am_T ∧ (ref = (T q.2.2.2).1 ∨ Cond.sameField ref (T q.2.2.2).1 (T q.2.2.2).2.1 (T q.2.2.2).2.2.1 ∈ am_T)
def am_FL : List (Nat × Nat × Nat × Nat) := [(8, 10, 0, 0), (8, 18, 0, 1), (8, 28, 0, 2), (8, 37, 0, 3), (8, 44, 0, 4), (8, 51, 0, 5), (8, 57, 0, 6), (0, 11, 6, 0), (0, 17, 6, 1), (0, 21, 6, 2), (1, 9, 2, 1), (1, 13, 2, 2), (1, 16, 2, 4), (1, 19, 2, 0), (1, 23, 2, 5), (1, 36, 2, 3), (2, 11, 7, 0), (2, 17, 7, 1), (2, 23, 7, 3), (2, 26, 7, 5), (2, 29, 7, 6), (2, 32, 7, 2), (2, 40, 7, 4), (3, 7, 9, 0), (3, 13, 9, 1), (3, 17, 9, 2), (3, 21, 9, 3), (3, 24, 9, 4), (4, 12, 4, 1), (4, 20, 4, 2), (4, 24, 4, 4), (4, 27, 4, 5), (4, 30, 4, 0), (4, 37, 4, 3), (4, 41, 4, 7), (4, 44, 4, 8), (4, 111, 9, 3), (4, 114, 9, 4), (4, 122, 9, 0), (4, 131, 4, 6), (4, 138, 9, 1), (4, 158, 9, 2), (5, 11, 3, 0), (5, 15, 3, 1), (5, 18, 3, 2), (5, 22, 3, 3), (5, 25, 3, 5), (5, 29, 3, 6), (5, 32, 3, 7), (5, 35, 3, 8), (5, 38, 3, 4), (5, 42, 3, 9), (6, 9, 1, 0), (6, 13, 1, 2), (6, 17, 1, 3), (6, 20, 1, 4), (6, 23, 1, 1), (6, 29, 1, 5), (9, 8, 8, 0), (9, 14, 8, 1), (9, 18, 8, 2), (9, 21, 8, 4), (9, 24, 8, 5), (9, 27, 8, 6), (9, 30, 8, 7), (9, 33, 8, 8), (9, 36, 8, 11), (9, 39, 8, 13), (9, 42, 8, 15), (9, 45, 8, 16), (9, 48, 8, 17), (9, 51, 8, 18), (9, 54, 8, 19), (9, 57, 8, 20), (9, 60, 8, 25), (9, 63, 8, 26), (9, 67, 8, 28), (9, 70, 8, 30), (9, 73, 8, 32), (9, 84, 8, 3), (9, 88, 8, 14), (9, 95, 8, 12), (9, 121, 8, 31), (9, 131, 8, 9), (9, 140, 8, 10), (9, 154, 8, 23), (9, 157, 8, 24), (9, 172, 8, 22), (9, 175, 8, 21), (9, 209, 8, 27), (9, 222, 8, 29), (12, 7, 5, 0), (11, 9, 5, 1), (11, 48, 5, 2), (11, 63, 5, 0)]
theorem am_FL_0 : am_okF (8, 10, 0, 0) := ⟨_, _, _, "TextIndices", rfl, by decide, tm 282 (by decide +kernel), Or.inl rfl⟩
theorem am_FL_1 : am_okF (8, 18, 0, 1) := ⟨_, _, _, "TextIndices", rfl, by decide, tm 283 (by decide +kernel), Or.inl rfl⟩
theorem am_FL_2 : am_okF (8, 28, 0, 2) := ⟨_, _, _, "TextIndices", rfl, by decide, tm 284 (by decide +kernel), Or.inl rfl⟩
theorem am_FL_3 : am_okF (8, 37, 0, 3) := ⟨_, _, _, "TextIndices", rfl, by decide, tm 285 (by decide +kernel), Or.inl rfl⟩
theorem am_FL_4 : am_okF (8, 44, 0, 4) := ⟨_, _, _, "TextIndices", rfl, by decide, tm 286 (by decide +kernel), Or.inl rfl⟩
theorem am_FL_5 : am_okF (8, 51, 0, 5) := ⟨_, _, _, "TextIndices", rfl, by decide, tm 287 (by decide +kernel), Or.inl rfl⟩
theorem am_FL_6 : am_okF (8, 57, 0, 6) := ⟨_, _, _, "TextIndices", rfl, by decide, tm 288 (by decide +kernel), Or.inl rfl⟩
theorem am_FL_7 : am_okF (0, 11, 6, 0) := ⟨_, _, _, "TextIndices$Answers", rfl, by decide, tm 244 (by decide +kernel), Or.inl rfl⟩
theorem am_FL_8 : am_okF (0, 17, 6, 1) := ⟨_, _, _, "TextIndices$Answers", rfl, by decide, tm 245 (by decide +kernel), Or.inl rfl⟩
theorem am_FL_9 : am_okF (0, 21, 6, 2) := ⟨_, _, _, "TextIndices$Answers", rfl, by decide, tm 246 (by decide +kernel), Or.inl rfl⟩
theorem am_FL_10 : am_okF (1, 9, 2, 1) := ⟨_, _, _, "TextIndices$Language", rfl, by decide, tm 122 (by decide +kernel), Or.inl rfl⟩
theorem am_FL_11 : am_okF (1, 13, 2, 2) := ⟨_, _, _, "TextIndices$Language", rfl, by decide, tm 123 (by decide +kernel), Or.inl rfl⟩
theorem am_FL_12 : am_okF (1, 16, 2, 4) := ⟨_, _, _, "TextIndices$Language", rfl, by decide, tm 125 (by decide +kernel), Or.inl rfl⟩
theorem am_FL_13 : am_okF (1, 19, 2, 0) := ⟨_, _, _, "TextIndices$Language", rfl, by decide, tm 121 (by decide +kernel), Or.inl rfl⟩
theorem am_FL_14 : am_okF (1, 23, 2, 5) := ⟨_, _, _, "TextIndices$Language", rfl, by decide, tm 126 (by decide +kernel), Or.inl rfl⟩
theorem am_FL_15 : am_okF (1, 36, 2, 3) := ⟨_, _, _, "TextIndices$Language", rfl, by decide, tm 124 (by decide +kernel), Or.inl rfl⟩
theorem am_FL_16 : am_okF (2, 11, 7, 0) := ⟨_, _, _, "TextIndices$Likes", rfl, by decide, tm 260 (by decide +kernel), Or.inl rfl⟩
theorem am_FL_17 : am_okF (2, 17, 7, 1) := ⟨_, _, _, "TextIndices$Likes", rfl, by decide, tm 261 (by decide +kernel), Or.inl rfl⟩
theorem am_FL_18 : am_okF (2, 23, 7, 3) := ⟨_, _, _, "TextIndices$Likes", rfl, by decide, tm 263 (by decide +kernel), Or.inl rfl⟩
theorem am_FL_19 : am_okF (2, 26, 7, 5) := ⟨_, _, _, "TextIndices$Likes", rfl, by decide, tm 265 (by decide +kernel), Or.inl rfl⟩
theorem am_FL_20 : am_okF (2, 29, 7, 6) := ⟨_, _, _, "TextIndices$Likes", rfl, by decide, tm 266 (by decide +kernel), Or.inl rfl⟩
theorem am_FL_21 : am_okF (2, 32, 7, 2) := ⟨_, _, _, "TextIndices$Likes", rfl, by decide, tm 262 (by decide +kernel), Or.inl rfl⟩
theorem am_FL_22 : am_okF (2, 40, 7, 4) := ⟨_, _, _, "TextIndices$Likes", rfl, by decide, tm 264 (by decide +kernel), Or.inl rfl⟩
theorem am_FL_23 : am_okF (3, 7, 9, 0) := ⟨_, _, _, "TextIndices$Part", rfl, by decide, tm 522 (by decide +kernel), Or.inl rfl⟩
theorem am_FL_24 : am_okF (3, 13, 9, 1) := ⟨_, _, _, "TextIndices$Part", rfl, by decide, tm 524 (by decide +kernel), Or.inl rfl⟩
theorem am_FL_25 : am_okF (3, 17, 9, 2) := ⟨_, _, _, "TextIndices$Part", rfl, by decide, tm 526 (by decide +kernel), Or.inl rfl⟩
theorem am_FL_26 : am_okF (3, 21, 9, 3) := ⟨_, _, _, "TextIndices$Part", rfl, by decide, tm 528 (by decide +kernel), Or.inl rfl⟩
theorem am_FL_27 : am_okF (3, 24, 9, 4) := ⟨_, _, _, "TextIndices$Part", rfl, by decide, tm 530 (by decide +kernel), Or.inl rfl⟩
theorem am_FL_28 : am_okF (4, 12, 4, 1) := ⟨_, _, _, "TextIndices$Question", rfl, by decide, tm 211 (by decide +kernel), Or.inl rfl⟩
theorem am_FL_29 : am_okF (4, 20, 4, 2) := ⟨_, _, _, "TextIndices$Question", rfl, by decide, tm 212 (by decide +kernel), Or.inl rfl⟩
theorem am_FL_30 : am_okF (4, 24, 4, 4) := ⟨_, _, _, "TextIndices$Question", rfl, by decide, tm 214 (by decide +kernel), Or.inl rfl⟩
theorem am_FL_31 : am_okF (4, 27, 4, 5) := ⟨_, _, _, "TextIndices$Question", rfl, by decide, tm 215 (by decide +kernel), Or.inl rfl⟩
theorem am_FL_32 : am_okF (4, 30, 4, 0) := ⟨_, _, _, "TextIndices$Question", rfl, by decide, tm 210 (by decide +kernel), Or.inl rfl⟩
theorem am_FL_33 : am_okF (4, 37, 4, 3) := ⟨_, _, _, "TextIndices$Question", rfl, by decide, tm 213 (by decide +kernel), Or.inl rfl⟩
theorem am_FL_34 : am_okF (4, 41, 4, 7) := ⟨_, _, _, "TextIndices$Question", rfl, by decide, tm 217 (by decide +kernel), Or.inl rfl⟩
theorem am_FL_35 : am_okF (4, 44, 4, 8) := ⟨_, _, _, "TextIndices$Question", rfl, by decide, tm 218 (by decide +kernel), Or.inl rfl⟩
theorem am_FL_36 : am_okF (4, 111, 9, 3) := ⟨_, _, _, "TextIndices$Part", rfl, by decide, tm 529 (by decide +kernel), Or.inl rfl⟩
theorem am_FL_37 : am_okF (4, 114, 9, 4) := ⟨_, _, _, "TextIndices$Part", rfl, by decide, tm 531 (by decide +kernel), Or.inl rfl⟩
theorem am_FL_38 : am_okF (4, 122, 9, 0) := ⟨_, _, _, "TextIndices$Part", rfl, by decide, tm 523 (by decide +kernel), Or.inl rfl⟩
theorem am_FL_39 : am_okF (4, 131, 4, 6) := ⟨_, _, _, "TextIndices$Question", rfl, by decide, tm 216 (by decide +kernel), Or.inl rfl⟩
theorem am_FL_40 : am_okF (4, 138, 9, 1) := ⟨_, _, _, "TextIndices$Part", rfl, by decide, tm 525 (by decide +kernel), Or.inl rfl⟩
theorem am_FL_41 : am_okF (4, 158, 9, 2) := ⟨_, _, _, "TextIndices$Part", rfl, by decide, tm 527 (by decide +kernel), Or.inl rfl⟩
theorem am_FL_42 : am_okF (5, 11, 3, 0) := ⟨_, _, _, "TextIndices$Shelf", rfl, by decide, tm 146 (by decide +kernel), Or.inl rfl⟩
theorem am_FL_43 : am_okF (5, 15, 3, 1) := ⟨_, _, _, "TextIndices$Shelf", rfl, by decide, tm 147 (by decide +kernel), Or.inl rfl⟩
theorem am_FL_44 : am_okF (5, 18, 3, 2) := ⟨_, _, _, "TextIndices$Shelf", rfl, by decide, tm 148 (by decide +kernel), Or.inl rfl⟩
theorem am_FL_45 : am_okF (5, 22, 3, 3) := ⟨_, _, _, "TextIndices$Shelf", rfl, by decide, tm 149 (by decide +kernel), Or.inl rfl⟩
theorem am_FL_46 : am_okF (5, 25, 3, 5) := ⟨_, _, _, "TextIndices$Shelf", rfl, by decide, tm 151 (by decide +kernel), Or.inl rfl⟩
theorem am_FL_47 : am_okF (5, 29, 3, 6) := ⟨_, _, _, "TextIndices$Shelf", rfl, by decide, tm 152 (by decide +kernel), Or.inl rfl⟩
theorem am_FL_48 : am_okF (5, 32, 3, 7) := ⟨_, _, _, "TextIndices$Shelf", rfl, by decide, tm 153 (by decide +kernel), Or.inl rfl⟩
theorem am_FL_49 : am_okF (5, 35, 3, 8) := ⟨_, _, _, "TextIndices$Shelf", rfl, by decide, tm 154 (by decide +kernel), Or.inl rfl⟩
theorem am_FL_50 : am_okF (5, 38, 3, 4) := ⟨_, _, _, "TextIndices$Shelf", rfl, by decide, tm 150 (by decide +kernel), Or.inl rfl⟩
theorem am_FL_51 : am_okF (5, 42, 3, 9) := ⟨_, _, _, "TextIndices$Shelf", rfl, by decide, tm 155 (by decide +kernel), Or.inl rfl⟩
theorem am_FL_52 : am_okF (6, 9, 1, 0) := ⟨_, _, _, "TextIndices$Tape", rfl, by decide, tm 93 (by decide +kernel), Or.inl rfl⟩
theorem am_FL_53 : am_okF (6, 13, 1, 2) := ⟨_, _, _, "TextIndices$Tape", rfl, by decide, tm 95 (by decide +kernel), Or.inl rfl⟩
theorem am_FL_54 : am_okF (6, 17, 1, 3) := ⟨_, _, _, "TextIndices$Tape", rfl, by decide, tm 96 (by decide +kernel), Or.inl rfl⟩
theorem am_FL_55 : am_okF (6, 20, 1, 4) := ⟨_, _, _, "TextIndices$Tape", rfl, by decide, tm 97 (by decide +kernel), Or.inl rfl⟩
theorem am_FL_56 : am_okF (6, 23, 1, 1) := ⟨_, _, _, "TextIndices$Tape", rfl, by decide, tm 94 (by decide +kernel), Or.inl rfl⟩
theorem am_FL_57 : am_okF (6, 29, 1, 5) := ⟨_, _, _, "TextIndices$Tape", rfl, by decide, tm 98 (by decide +kernel), Or.inl rfl⟩
theorem am_FL_58 : am_okF (9, 8, 8, 0) := ⟨_, _, _, "TextIndicesModel", rfl, by decide, tm 827 (by decide +kernel), Or.inl rfl⟩
theorem am_FL_59 : am_okF (9, 14, 8, 1) := ⟨_, _, _, "TextIndicesModel", rfl, by decide, tm 828 (by decide +kernel), Or.inl rfl⟩
theorem am_FL_60 : am_okF (9, 18, 8, 2) := ⟨_, _, _, "TextIndicesModel", rfl, by decide, tm 829 (by decide +kernel), Or.inl rfl⟩
theorem am_FL_61 : am_okF (9, 21, 8, 4) := ⟨_, _, _, "TextIndicesModel", rfl, by decide, tm 831 (by decide +kernel), Or.inl rfl⟩
theorem am_FL_62 : am_okF (9, 24, 8, 5) := ⟨_, _, _, "TextIndicesModel", rfl, by decide, tm 832 (by decide +kernel), Or.inl rfl⟩
theorem am_FL_63 : am_okF (9, 27, 8, 6) := ⟨_, _, _, "TextIndicesModel", rfl, by decide, tm 833 (by decide +kernel), Or.inl rfl⟩
theorem am_FL_64 : am_okF (9, 30, 8, 7) := ⟨_, _, _, "TextIndicesModel", rfl, by decide, tm 834 (by decide +kernel), Or.inl rfl⟩
theorem am_FL_65 : am_okF (9, 33, 8, 8) := ⟨_, _, _, "TextIndicesModel", rfl, by decide, tm 835 (by decide +kernel), Or.inl rfl⟩
theorem am_FL_66 : am_okF (9, 36, 8, 11) := ⟨_, _, _, "TextIndicesModel", rfl, by decide, tm 838 (by decide +kernel), Or.inl rfl⟩
theorem am_FL_67 : am_okF (9, 39, 8, 13) := ⟨_, _, _, "TextIndicesModel", rfl, by decide, tm 840 (by decide +kernel), Or.inl rfl⟩
theorem am_FL_68 : am_okF (9, 42, 8, 15) := ⟨_, _, _, "TextIndicesModel", rfl, by decide, tm 842 (by decide +kernel), Or.inl rfl⟩
theorem am_FL_69 : am_okF (9, 45, 8, 16) := ⟨_, _, _, "TextIndicesModel", rfl, by decide, tm 843 (by decide +kernel), Or.inl rfl⟩
theorem am_FL_70 : am_okF (9, 48, 8, 17) := ⟨_, _, _, "TextIndicesModel", rfl, by decide, tm 844 (by decide +kernel), Or.inl rfl⟩
theorem am_FL_71 : am_okF (9, 51, 8, 18) := ⟨_, _, _, "TextIndicesModel", rfl, by decide, tm 845 (by decide +kernel), Or.inl rfl⟩
theorem am_FL_72 : am_okF (9, 54, 8, 19) := ⟨_, _, _, "TextIndicesModel", rfl, by decide, tm 846 (by decide +kernel), Or.inl rfl⟩
theorem am_FL_73 : am_okF (9, 57, 8, 20) := ⟨_, _, _, "TextIndicesModel", rfl, by decide, tm 847 (by decide +kernel), Or.inl rfl⟩
theorem am_FL_74 : am_okF (9, 60, 8, 25) := ⟨_, _, _, "TextIndicesModel", rfl, by decide, tm 852 (by decide +kernel), Or.inl rfl⟩
theorem am_FL_75 : am_okF (9, 63, 8, 26) := ⟨_, _, _, "TextIndicesModel", rfl, by decide, tm 853 (by decide +kernel), Or.inl rfl⟩
theorem am_FL_76 : am_okF (9, 67, 8, 28) := ⟨_, _, _, "TextIndicesModel", rfl, by decide, tm 855 (by decide +kernel), Or.inl rfl⟩
theorem am_FL_77 : am_okF (9, 70, 8, 30) := ⟨_, _, _, "TextIndicesModel", rfl, by decide, tm 857 (by decide +kernel), Or.inl rfl⟩
theorem am_FL_78 : am_okF (9, 73, 8, 32) := ⟨_, _, _, "TextIndicesModel", rfl, by decide, tm 859 (by decide +kernel), Or.inl rfl⟩
theorem am_FL_79 : am_okF (9, 84, 8, 3) := ⟨_, _, _, "TextIndicesModel", rfl, by decide, tm 830 (by decide +kernel), Or.inl rfl⟩
theorem am_FL_80 : am_okF (9, 88, 8, 14) := ⟨_, _, _, "TextIndicesModel", rfl, by decide, tm 841 (by decide +kernel), Or.inl rfl⟩
theorem am_FL_81 : am_okF (9, 95, 8, 12) := ⟨_, _, _, "TextIndicesModel", rfl, by decide, tm 839 (by decide +kernel), Or.inl rfl⟩
theorem am_FL_82 : am_okF (9, 121, 8, 31) := ⟨_, _, _, "TextIndicesModel", rfl, by decide, tm 858 (by decide +kernel), Or.inl rfl⟩
theorem am_FL_83 : am_okF (9, 131, 8, 9) := ⟨_, _, _, "TextIndicesModel", rfl, by decide, tm 836 (by decide +kernel), Or.inl rfl⟩
theorem am_FL_84 : am_okF (9, 140, 8, 10) := ⟨_, _, _, "TextIndicesModel", rfl, by decide, tm 837 (by decide +kernel), Or.inl rfl⟩
theorem am_FL_85 : am_okF (9, 154, 8, 23) := ⟨_, _, _, "TextIndicesModel", rfl, by decide, tm 850 (by decide +kernel), Or.inl rfl⟩
theorem am_FL_86 : am_okF (9, 157, 8, 24) := ⟨_, _, _, "TextIndicesModel", rfl, by decide, tm 851 (by decide +kernel), Or.inl rfl⟩
theorem am_FL_87 : am_okF (9, 172, 8, 22) := ⟨_, _, _, "TextIndicesModel", rfl, by decide, tm 849 (by decide +kernel), Or.inl rfl⟩
theorem am_FL_88 : am_okF (9, 175, 8, 21) := ⟨_, _, _, "TextIndicesModel", rfl, by decide, tm 848 (by decide +kernel), Or.inl rfl⟩
theorem am_FL_89 : am_okF (9, 209, 8, 27) := ⟨_, _, _, "TextIndicesModel", rfl, by decide, tm 854 (by decide +kernel), Or.inl rfl⟩
theorem am_FL_90 : am_okF (9, 222, 8, 29) := ⟨_, _, _, "TextIndicesModel", rfl, by decide, tm 856 (by decide +kernel), Or.inl rfl⟩
theorem am_FL_91 : am_okF (12, 7, 5, 0) := ⟨_, _, _, "java/util/AbstractList", rfl, by decide, tm 200 (by decide +kernel), Or.inl rfl⟩
theorem am_FL_92 : am_okF (11, 9, 5, 1) := ⟨_, _, _, "java/util/ArrayList", rfl, by decide, tm 198 (by decide +kernel), Or.inl rfl⟩
theorem am_FL_93 : am_okF (11, 48, 5, 2) := ⟨_, _, _, "java/util/ArrayList", rfl, by decide, tm 199 (by decide +kernel), Or.inl rfl⟩
theorem am_FL_94 : am_okF (11, 63, 5, 0) := ⟨_, _, _, "java/util/ArrayList", rfl, by decide, tm 201 (by decide +kernel), Or.inr (tm 202 (by decide +kernel))⟩
set_option maxRecDepth 20000 in
theorem am_FL_ok : ∀ q ∈ am_FL, am_okF q := List.forall_mem_cons.mpr ⟨am_FL_0, List.forall_mem_cons.mpr ⟨am_FL_1, List.forall_mem_cons.mpr ⟨am_FL_2, List.forall_mem_cons.mpr ⟨am_FL_3, List.forall_mem_cons.mpr ⟨am_FL_4, List.forall_mem_cons.mpr ⟨am_FL_5, List.forall_mem_cons.mpr ⟨am_FL_6, List.forall_mem_cons.mpr ⟨am_FL_7, List.forall_mem_cons.mpr ⟨am_FL_8, List.forall_mem_cons.mpr ⟨am_FL_9, List.forall_mem_cons.mpr ⟨am_FL_10, List.forall_mem_cons.mpr ⟨am_FL_11, List.forall_mem_cons.mpr ⟨am_FL_12, List.forall_mem_cons.mpr ⟨am_FL_13, List.forall_mem_cons.mpr ⟨am_FL_14, List.forall_mem_cons.mpr ⟨am_FL_15, List.forall_mem_cons.mpr ⟨am_FL_16, List.forall_mem_cons.mpr ⟨am_FL_17, List.forall_mem_cons.mpr ⟨am_FL_18, List.forall_mem_cons.mpr ⟨am_FL_19, List.forall_mem_cons.mpr ⟨am_FL_20, List.forall_mem_cons.mpr ⟨am_FL_21, List.forall_mem_cons.mpr ⟨am_FL_22, List.forall_mem_cons.mpr ⟨am_FL_23, List.forall_mem_cons.mpr ⟨am_FL_24, List.forall_mem_cons.mpr ⟨am_FL_25, List.forall_mem_cons.mpr ⟨am_FL_26, List.forall_mem_cons.mpr ⟨am_FL_27, List.forall_mem_cons.mpr ⟨am_FL_28, List.forall_mem_cons.mpr ⟨am_FL_29, List.forall_mem_cons.mpr ⟨am_FL_30, List.forall_mem_cons.mpr ⟨am_FL_31, List.forall_mem_cons.mpr ⟨am_FL_32, List.forall_mem_cons.mpr ⟨am_FL_33, List.forall_mem_cons.mpr ⟨am_FL_34, List.forall_mem_cons.mpr ⟨am_FL_35, List.forall_mem_cons.mpr ⟨am_FL_36, List.forall_mem_cons.mpr ⟨am_FL_37, List.forall_mem_cons.mpr ⟨am_FL_38, List.forall_mem_cons.mpr ⟨am_FL_39, List.forall_mem_cons.mpr ⟨am_FL_40, List.forall_mem_cons.mpr ⟨am_FL_41, List.forall_mem_cons.mpr ⟨am_FL_42, List.forall_mem_cons.mpr ⟨am_FL_43, List.forall_mem_cons.mpr ⟨am_FL_44, List.forall_mem_cons.mpr ⟨am_FL_45, List.forall_mem_cons.mpr ⟨am_FL_46, List.forall_mem_cons.mpr ⟨am_FL_47, List.forall_mem_cons.mpr ⟨am_FL_48, List.forall_mem_cons.mpr ⟨am_FL_49, List.forall_mem_cons.mpr ⟨am_FL_50, List.forall_mem_cons.mpr ⟨am_FL_51, List.forall_mem_cons.mpr ⟨am_FL_52, List.forall_mem_cons.mpr ⟨am_FL_53, List.forall_mem_cons.mpr ⟨am_FL_54, List.forall_mem_cons.mpr ⟨am_FL_55, List.forall_mem_cons.mpr ⟨am_FL_56, List.forall_mem_cons.mpr ⟨am_FL_57, List.forall_mem_cons.mpr ⟨am_FL_58, List.forall_mem_cons.mpr ⟨am_FL_59, List.forall_mem_cons.mpr ⟨am_FL_60, List.forall_mem_cons.mpr ⟨am_FL_61, List.forall_mem_cons.mpr ⟨am_FL_62, List.forall_mem_cons.mpr ⟨am_FL_63, List.forall_mem_cons.mpr ⟨am_FL_64, List.forall_mem_cons.mpr ⟨am_FL_65, List.forall_mem_cons.mpr ⟨am_FL_66, List.forall_mem_cons.mpr ⟨am_FL_67, List.forall_mem_cons.mpr ⟨am_FL_68, List.forall_mem_cons.mpr ⟨am_FL_69, List.forall_mem_cons.mpr ⟨am_FL_70, List.forall_mem_cons.mpr ⟨am_FL_71, List.forall_mem_cons.mpr ⟨am_FL_72, List.forall_mem_cons.mpr ⟨am_FL_73, List.forall_mem_cons.mpr ⟨am_FL_74, List.forall_mem_cons.mpr ⟨am_FL_75, List.forall_mem_cons.mpr ⟨am_FL_76, List.forall_mem_cons.mpr ⟨am_FL_77, List.forall_mem_cons.mpr ⟨am_FL_78, List.forall_mem_cons.mpr ⟨am_FL_79, List.forall_mem_cons.mpr ⟨am_FL_80, List.forall_mem_cons.mpr ⟨am_FL_81, List.forall_mem_cons.mpr ⟨am_FL_82, List.forall_mem_cons.mpr ⟨am_FL_83, List.forall_mem_cons.mpr ⟨am_FL_84, List.forall_mem_cons.mpr ⟨am_FL_85, List.forall_mem_cons.mpr ⟨am_FL_86, List.forall_mem_cons.mpr ⟨am_FL_87, List.forall_mem_cons.mpr ⟨am_FL_88, List.forall_mem_cons.mpr ⟨am_FL_89, List.forall_mem_cons.mpr ⟨am_FL_90, List.forall_mem_cons.mpr ⟨am_FL_91, List.forall_mem_cons.mpr ⟨am_FL_92, List.forall_mem_cons.mpr ⟨am_FL_93, List.forall_mem_cons.mpr ⟨am_FL_94, fun _ h => absurd h List.not_mem_nil⟩⟩⟩⟩⟩⟩⟩⟩⟩⟩⟩⟩⟩⟩⟩⟩⟩⟩⟩⟩⟩⟩⟩⟩⟩⟩⟩⟩⟩⟩⟩⟩⟩⟩⟩⟩⟩⟩⟩⟩⟩⟩⟩⟩⟩⟩⟩⟩⟩⟩⟩⟩⟩⟩⟩⟩⟩⟩⟩⟩⟩⟩⟩⟩⟩⟩⟩⟩⟩⟩⟩⟩⟩⟩⟩⟩⟩⟩⟩⟩⟩⟩⟩⟩⟩⟩⟩⟩⟩⟩⟩⟩⟩⟩⟩
def am_xs (x : Nat) : Option (String × String × String) := match x with
  | 0 => some ("java/util/ArrayList", "DEFAULTCAPACITY_EMPTY_ELEMENTDATA", "[Ljava/lang/Object;")
  | 1 => some ("TextIndices$Kind", "WORD", "LTextIndices$Kind;")
  | 2 => some ("TextIndices$Kind", "BEGINNING", "LTextIndices$Kind;")
  | 3 => some ("TextIndices$Kind", "PHRASE", "LTextIndices$Kind;")
  | _ => none
def am_okS (q : Nat × Nat × Nat) : Prop := ∃ (C n d : String), am_xs q.2.2 = some (C, n, d) ∧ Cond.fieldLink (am_on q.1) q.2.1 C n d ∈ am_T
def am_SL : List (Nat × Nat × Nat) := [(4, 74, 2), (4, 80, 1), (4, 94, 3), (11, 39, 0)]
theorem am_SL_0 : am_okS (4, 74, 2) := ⟨_, _, _, rfl, tm 605 (by decide +kernel)⟩
theorem am_SL_1 : am_okS (4, 80, 1) := ⟨_, _, _, rfl, tm 607 (by decide +kernel)⟩
theorem am_SL_2 : am_okS (4, 94, 3) := ⟨_, _, _, rfl, tm 516 (by decide +kernel)⟩
theorem am_SL_3 : am_okS (11, 39, 0) := ⟨_, _, _, rfl, tm 196 (by decide +kernel)⟩
set_option maxRecDepth 20000 in
theorem am_SL_ok : ∀ q ∈ am_SL, am_okS q := List.forall_mem_cons.mpr ⟨am_SL_0, List.forall_mem_cons.mpr ⟨am_SL_1, List.forall_mem_cons.mpr ⟨am_SL_2, List.forall_mem_cons.mpr ⟨am_SL_3, fun _ h => absurd h List.not_mem_nil⟩⟩⟩⟩
def am_okKL (q : Nat × Nat × Int64) : Prop := Cond.constantLong (am_on q.1) q.2.1 q.2.2 ∈ am_T
def am_KL : List (Nat × Nat × Int64) := [(4, 152, 5342931457063200), (6, 27, 255), (7, 9, 37), (10, 13, 4294967295), (9, 204, 5342931457063200)]
theorem am_KL_0 : am_okKL (4, 152, 5342931457063200) := tm 653 (by decide +kernel)
theorem am_KL_1 : am_okKL (6, 27, 255) := tm 312 (by decide +kernel)
theorem am_KL_2 : am_okKL (7, 9, 37) := tm 351 (by decide +kernel)
theorem am_KL_3 : am_okKL (10, 13, 4294967295) := tm 1126 (by decide +kernel)
theorem am_KL_4 : am_okKL (9, 204, 5342931457063200) := tm 1097 (by decide +kernel)
set_option maxRecDepth 20000 in
theorem am_KL_ok : ∀ q ∈ am_KL, am_okKL q := List.forall_mem_cons.mpr ⟨am_KL_0, List.forall_mem_cons.mpr ⟨am_KL_1, List.forall_mem_cons.mpr ⟨am_KL_2, List.forall_mem_cons.mpr ⟨am_KL_3, List.forall_mem_cons.mpr ⟨am_KL_4, fun _ h => absurd h List.not_mem_nil⟩⟩⟩⟩⟩
def am_okKI (q : Nat × Nat × Int32) : Prop := Cond.constant (am_on q.1) q.2.1 q.2.2 ∈ am_T
def am_KI : List (Nat × Nat × Int32) := [(9, 7, 72408), (16, 200, 2147483639)]
theorem am_KI_0 : am_okKI (9, 7, 72408) := tm 826 (by decide +kernel)
theorem am_KI_1 : am_okKI (16, 200, 2147483639) := tm 565 (by decide +kernel)
set_option maxRecDepth 20000 in
theorem am_KI_ok : ∀ q ∈ am_KI, am_okKI q := List.forall_mem_cons.mpr ⟨am_KI_0, List.forall_mem_cons.mpr ⟨am_KI_1, fun _ h => absurd h List.not_mem_nil⟩⟩
def am_okN (q : Nat × Nat × Nat) : Prop := ∃ (C : String) (T : u_T) (N : Nat), am_cl[q.2.2]? = some (C, T, N) ∧ Cond.classLink (am_on q.1) q.2.1 C ∈ am_T
def am_NL : List (Nat × Nat × Nat) := [(8, 7, 1), (8, 16, 2), (8, 25, 3), (8, 32, 4), (8, 41, 6), (8, 48, 7), (4, 9, 5), (4, 72, 9), (10, 7, 0), (10, 10, 8)]
theorem am_NL_0 : am_okN (8, 7, 1) := ⟨_, _, _, rfl, tm 87 (by decide +kernel)⟩
theorem am_NL_1 : am_okN (8, 16, 2) := ⟨_, _, _, rfl, tm 114 (by decide +kernel)⟩
theorem am_NL_2 : am_okN (8, 25, 3) := ⟨_, _, _, rfl, tm 140 (by decide +kernel)⟩
theorem am_NL_3 : am_okN (8, 32, 4) := ⟨_, _, _, rfl, tm 178 (by decide +kernel)⟩
theorem am_NL_4 : am_okN (8, 41, 6) := ⟨_, _, _, rfl, tm 238 (by decide +kernel)⟩
theorem am_NL_5 : am_okN (8, 48, 7) := ⟨_, _, _, rfl, tm 254 (by decide +kernel)⟩
theorem am_NL_6 : am_okN (4, 9, 5) := ⟨_, _, _, rfl, tm 184 (by decide +kernel)⟩
theorem am_NL_7 : am_okN (4, 72, 9) := ⟨_, _, _, rfl, tm 514 (by decide +kernel)⟩
theorem am_NL_8 : am_okN (10, 7, 0) := ⟨_, _, _, rfl, tm 79 (by decide +kernel)⟩
theorem am_NL_9 : am_okN (10, 10, 8) := ⟨_, _, _, rfl, tm 820 (by decide +kernel)⟩
set_option maxRecDepth 20000 in
theorem am_NL_ok : ∀ q ∈ am_NL, am_okN q := List.forall_mem_cons.mpr ⟨am_NL_0, List.forall_mem_cons.mpr ⟨am_NL_1, List.forall_mem_cons.mpr ⟨am_NL_2, List.forall_mem_cons.mpr ⟨am_NL_3, List.forall_mem_cons.mpr ⟨am_NL_4, List.forall_mem_cons.mpr ⟨am_NL_5, List.forall_mem_cons.mpr ⟨am_NL_6, List.forall_mem_cons.mpr ⟨am_NL_7, List.forall_mem_cons.mpr ⟨am_NL_8, List.forall_mem_cons.mpr ⟨am_NL_9, fun _ h => absurd h List.not_mem_nil⟩⟩⟩⟩⟩⟩⟩⟩⟩⟩
/-- kinds of rows -/
def am_TY : List FieldType := [.int, .byte, .boolean, .long, .object "java/lang/Object", .object "TextIndices$Language"]
def am_okQ (q : Nat × Nat × Nat) : Prop := ∃ C : String, am_TY[q.2.2]? = some (.object C) ∧ Cond.classLink (am_on q.1) q.2.1 C ∈ am_T ∧ Cond.arrayOver (.object C) ∈ lw_tbl
def am_QL : List (Nat × Nat × Nat) := [(8, 16, 5), (11, 7, 4), (14, 2, 4)]
theorem am_QL_0 : am_okQ (8, 16, 5) := ⟨"TextIndices$Language", rfl, tm 114 (by decide +kernel), tn 115 (by decide +kernel)⟩
theorem am_QL_1 : am_okQ (11, 7, 4) := ⟨"java/lang/Object", rfl, tm 594 (by decide +kernel), tn 591 (by decide +kernel)⟩
theorem am_QL_2 : am_okQ (14, 2, 4) := ⟨"java/lang/Object", rfl, tm 592 (by decide +kernel), tn 591 (by decide +kernel)⟩
set_option maxRecDepth 20000 in
theorem am_QL_ok : ∀ q ∈ am_QL, am_okQ q := List.forall_mem_cons.mpr ⟨am_QL_0, List.forall_mem_cons.mpr ⟨am_QL_1, List.forall_mem_cons.mpr ⟨am_QL_2, fun _ h => absurd h List.not_mem_nil⟩⟩⟩
def am_okMI (q : Nat × Nat) : Prop := Cond.classLink (am_on q.1) q.2 "[Ljava/lang/Object;" ∈ am_T
def am_MI : List (Nat × Nat) := [(14, 110)]
theorem am_MI_0 : am_okMI (14, 110) := tm 590 (by decide +kernel)
set_option maxRecDepth 20000 in
theorem am_MI_ok : ∀ q ∈ am_MI, am_okMI q := List.forall_mem_cons.mpr ⟨am_MI_0, fun _ h => absurd h List.not_mem_nil⟩
theorem am_ac_int : Cond.arrayClass .int ∈ am_T := tm 112 (by decide +kernel)
theorem am_ac_byte : Cond.arrayClass .byte ∈ am_T := tm 927 (by decide +kernel)
theorem am_ac_boolean : Cond.arrayClass .boolean ∈ am_T := tm 177 (by decide +kernel)
theorem am_ac_long : Cond.arrayClass .long ∈ am_T := tm 113 (by decide +kernel)
def am_okC (ci : Nat) : Prop := ∀ (C : String) (T : u_T) (N : Nat), am_cl[ci]? = some (C, T, N) → (∀ w ∈ u_ws C T N, w ∈ am_T) ∧ (∀ k, k < N → parseFieldDescriptor (T k).2.2.1 = some (am_ft ci k)) ∧ (∀ a, a < N → ∀ b, b < N → a ≠ b → (T a).2.1 ≠ (T b).2.1) ∧ Cond.instantiable C N ∈ am_T ∧ Cond.initialized C ∈ am_T ∧ (am_df ci).length = N ∧ ∀ j, j < N → defaultValue (am_ft ci j) = vp_V (am_df ci) j
theorem am_okC_0 : am_okC 0 := by
  intro C T N h
  cases h
  exact ⟨tm_sub [289, 291, 293, 295, 297, 299, 301] (by decide +kernel), tyok_TI, nm_TI, tm 80 (by decide +kernel), tm 58 (by decide +kernel), by decide, by decide +kernel⟩
theorem am_okC_1 : am_okC 1 := by
  intro C T N h
  cases h
  exact ⟨tm_sub [99, 101, 103, 105, 107, 109] (by decide +kernel), tyok_Ta, nm_Ta, tm 88 (by decide +kernel), tm 59 (by decide +kernel), by decide, by decide +kernel⟩
theorem am_okC_2 : am_okC 2 := by
  intro C T N h
  cases h
  exact ⟨tm_sub [127, 129, 131, 133, 135, 137] (by decide +kernel), tyok_La, nm_La, tm 116 (by decide +kernel), tm 60 (by decide +kernel), by decide, by decide +kernel⟩
theorem am_okC_3 : am_okC 3 := by
  intro C T N h
  cases h
  exact ⟨tm_sub [156, 158, 160, 162, 164, 166, 168, 170, 172, 174] (by decide +kernel), tyok_Sh, nm_Sh, tm 141 (by decide +kernel), tm 61 (by decide +kernel), by decide, by decide +kernel⟩
theorem am_okC_4 : am_okC 4 := by
  intro C T N h
  cases h
  exact ⟨tm_sub [219, 221, 223, 225, 227, 229, 231, 233, 235] (by decide +kernel), tyok_Qu, nm_Qu, tm 179 (by decide +kernel), tm 62 (by decide +kernel), by decide, by decide +kernel⟩
theorem am_okC_5 : am_okC 5 := by
  intro C T N h
  cases h
  exact ⟨tm_sub [207, 203, 205] (by decide +kernel), tyok_AL, nm_AL, tm 185 (by decide +kernel), tm 65 (by decide +kernel), by decide, by decide +kernel⟩
theorem am_okC_6 : am_okC 6 := by
  intro C T N h
  cases h
  exact ⟨tm_sub [247, 249, 251] (by decide +kernel), tyok_An, nm_An, tm 239 (by decide +kernel), tm 66 (by decide +kernel), by decide, by decide +kernel⟩
theorem am_okC_7 : am_okC 7 := by
  intro C T N h
  cases h
  exact ⟨tm_sub [267, 269, 271, 273, 275, 277, 279] (by decide +kernel), tyok_Li, nm_Li, tm 255 (by decide +kernel), tm 67 (by decide +kernel), by decide, by decide +kernel⟩
theorem am_okC_8 : am_okC 8 := by
  intro C T N h
  cases h
  exact ⟨tm_sub [860, 862, 864, 866, 868, 870, 872, 874, 876, 878, 880, 882, 884, 886, 888, 890, 892, 894, 896, 898, 900, 902, 904, 906, 908, 910, 912, 914, 916, 918, 920, 922, 924] (by decide +kernel), tyok_Mo, nm_Mo, tm 821 (by decide +kernel), tm 68 (by decide +kernel), by decide, by decide +kernel⟩
theorem am_okC_9 : am_okC 9 := by
  intro C T N h
  cases h
  exact ⟨tm_sub [532, 534, 536, 538, 540] (by decide +kernel), tyok_Pa, nm_Pa, tm 515 (by decide +kernel), tm 73 (by decide +kernel), by decide, by decide +kernel⟩
theorem am_okC_all (ci : Nat) : am_okC ci := by
  match ci with
  | 0 => exact am_okC_0
  | 1 => exact am_okC_1
  | 2 => exact am_okC_2
  | 3 => exact am_okC_3
  | 4 => exact am_okC_4
  | 5 => exact am_okC_5
  | 6 => exact am_okC_6
  | 7 => exact am_okC_7
  | 8 => exact am_okC_8
  | 9 => exact am_okC_9
  | n + 10 => intro C T N h; simp [am_cl] at h
def am_okJ (j : Nat) : Prop := Cond.code (am_y j) (am_bc j) (am_ml j) (am_rt j) ∈ am_T ∧ Cond.initialized (am_y j).cls ∈ am_T ∧ (am_y j).cls = am_on (am_ow j) ∧ plainFor (am_y j) = true ∧ ((am_y j).cls ≠ "java/lang/invoke/MethodHandle" ∧ (am_y j).cls ≠ "java/lang/invoke/VarHandle" ∧ (parseMethodDescriptor (am_y j).desc).map (fun d => d.parameters.length) = some (am_nc j))
theorem am_J_0 : am_okJ 0 := ⟨tm 242 (by decide +kernel), tm 66 (by decide +kernel), rfl, plainFor_of_name (by decide +kernel), by decide +kernel, by decide +kernel, by decide +kernel⟩
theorem am_J_1 : am_okJ 1 := ⟨tm 657 (by decide +kernel), tm 66 (by decide +kernel), rfl, plainFor_of_name (by decide +kernel), by decide +kernel, by decide +kernel, by decide +kernel⟩
theorem am_J_2 : am_okJ 2 := ⟨tm 696 (by decide +kernel), tm 66 (by decide +kernel), rfl, plainFor_of_name (by decide +kernel), by decide +kernel, by decide +kernel, by decide +kernel⟩
theorem am_J_3 : am_okJ 3 := ⟨tm 692 (by decide +kernel), tm 66 (by decide +kernel), rfl, plainFor_of_name (by decide +kernel), by decide +kernel, by decide +kernel, by decide +kernel⟩
theorem am_J_4 : am_okJ 4 := ⟨tm 708 (by decide +kernel), tm 66 (by decide +kernel), rfl, plainFor_of_name (by decide +kernel), by decide +kernel, by decide +kernel, by decide +kernel⟩
theorem am_J_5 : am_okJ 5 := ⟨tm 704 (by decide +kernel), tm 66 (by decide +kernel), rfl, plainFor_of_name (by decide +kernel), by decide +kernel, by decide +kernel, by decide +kernel⟩
theorem am_J_6 : am_okJ 6 := ⟨tm 716 (by decide +kernel), tm 66 (by decide +kernel), rfl, plainFor_of_name (by decide +kernel), by decide +kernel, by decide +kernel, by decide +kernel⟩
theorem am_J_7 : am_okJ 7 := ⟨tm 119 (by decide +kernel), tm 60 (by decide +kernel), rfl, plainFor_of_name (by decide +kernel), by decide +kernel, by decide +kernel, by decide +kernel⟩
theorem am_J_8 : am_okJ 8 := ⟨tm 363 (by decide +kernel), tm 60 (by decide +kernel), rfl, plainFor_of_name (by decide +kernel), by decide +kernel, by decide +kernel, by decide +kernel⟩
theorem am_J_9 : am_okJ 9 := ⟨tm 379 (by decide +kernel), tm 60 (by decide +kernel), rfl, plainFor_of_name (by decide +kernel), by decide +kernel, by decide +kernel, by decide +kernel⟩
theorem am_J_10 : am_okJ 10 := ⟨tm 428 (by decide +kernel), tm 60 (by decide +kernel), rfl, plainFor_of_name (by decide +kernel), by decide +kernel, by decide +kernel, by decide +kernel⟩
theorem am_J_11 : am_okJ 11 := ⟨tm 473 (by decide +kernel), tm 60 (by decide +kernel), rfl, plainFor_of_name (by decide +kernel), by decide +kernel, by decide +kernel, by decide +kernel⟩
theorem am_J_12 : am_okJ 12 := ⟨tm 469 (by decide +kernel), tm 60 (by decide +kernel), rfl, plainFor_of_name (by decide +kernel), by decide +kernel, by decide +kernel, by decide +kernel⟩
theorem am_J_13 : am_okJ 13 := ⟨tm 383 (by decide +kernel), tm 60 (by decide +kernel), rfl, plainFor_of_name (by decide +kernel), by decide +kernel, by decide +kernel, by decide +kernel⟩
theorem am_J_14 : am_okJ 14 := ⟨tm 389 (by decide +kernel), tm 60 (by decide +kernel), rfl, plainFor_of_name (by decide +kernel), by decide +kernel, by decide +kernel, by decide +kernel⟩
theorem am_J_15 : am_okJ 15 := ⟨tm 375 (by decide +kernel), tm 60 (by decide +kernel), rfl, plainFor_of_name (by decide +kernel), by decide +kernel, by decide +kernel, by decide +kernel⟩
theorem am_J_16 : am_okJ 16 := ⟨tm 258 (by decide +kernel), tm 67 (by decide +kernel), rfl, plainFor_of_name (by decide +kernel), by decide +kernel, by decide +kernel, by decide +kernel⟩
theorem am_J_17 : am_okJ 17 := ⟨tm 724 (by decide +kernel), tm 67 (by decide +kernel), rfl, plainFor_of_name (by decide +kernel), by decide +kernel, by decide +kernel, by decide +kernel⟩
theorem am_J_18 : am_okJ 18 := ⟨tm 763 (by decide +kernel), tm 67 (by decide +kernel), rfl, plainFor_of_name (by decide +kernel), by decide +kernel, by decide +kernel, by decide +kernel⟩
theorem am_J_19 : am_okJ 19 := ⟨tm 771 (by decide +kernel), tm 67 (by decide +kernel), rfl, plainFor_of_name (by decide +kernel), by decide +kernel, by decide +kernel, by decide +kernel⟩
theorem am_J_20 : am_okJ 20 := ⟨tm 728 (by decide +kernel), tm 67 (by decide +kernel), rfl, plainFor_of_name (by decide +kernel), by decide +kernel, by decide +kernel, by decide +kernel⟩
theorem am_J_21 : am_okJ 21 := ⟨tm 742 (by decide +kernel), tm 67 (by decide +kernel), rfl, plainFor_of_name (by decide +kernel), by decide +kernel, by decide +kernel, by decide +kernel⟩
theorem am_J_22 : am_okJ 22 := ⟨tm 746 (by decide +kernel), tm 67 (by decide +kernel), rfl, plainFor_of_name (by decide +kernel), by decide +kernel, by decide +kernel, by decide +kernel⟩
theorem am_J_23 : am_okJ 23 := ⟨tm 755 (by decide +kernel), tm 67 (by decide +kernel), rfl, plainFor_of_name (by decide +kernel), by decide +kernel, by decide +kernel, by decide +kernel⟩
theorem am_J_24 : am_okJ 24 := ⟨tm 759 (by decide +kernel), tm 67 (by decide +kernel), rfl, plainFor_of_name (by decide +kernel), by decide +kernel, by decide +kernel, by decide +kernel⟩
theorem am_J_25 : am_okJ 25 := ⟨tm 750 (by decide +kernel), tm 67 (by decide +kernel), rfl, plainFor_of_name (by decide +kernel), by decide +kernel, by decide +kernel, by decide +kernel⟩
theorem am_J_26 : am_okJ 26 := ⟨tm 520 (by decide +kernel), tm 73 (by decide +kernel), rfl, plainFor_of_name (by decide +kernel), by decide +kernel, by decide +kernel, by decide +kernel⟩
theorem am_J_27 : am_okJ 27 := ⟨tm 182 (by decide +kernel), tm 62 (by decide +kernel), rfl, plainFor_of_name (by decide +kernel), by decide +kernel, by decide +kernel, by decide +kernel⟩
theorem am_J_28 : am_okJ 28 := ⟨tm 495 (by decide +kernel), tm 62 (by decide +kernel), rfl, plainFor_of_name (by decide +kernel), by decide +kernel, by decide +kernel, by decide +kernel⟩
theorem am_J_29 : am_okJ 29 := ⟨tm 503 (by decide +kernel), tm 62 (by decide +kernel), rfl, plainFor_of_name (by decide +kernel), by decide +kernel, by decide +kernel, by decide +kernel⟩
theorem am_J_30 : am_okJ 30 := ⟨tm 509 (by decide +kernel), tm 62 (by decide +kernel), rfl, plainFor_of_name (by decide +kernel), by decide +kernel, by decide +kernel, by decide +kernel⟩
theorem am_J_31 : am_okJ 31 := ⟨tm 513 (by decide +kernel), tm 62 (by decide +kernel), rfl, plainFor_of_name (by decide +kernel), by decide +kernel, by decide +kernel, by decide +kernel⟩
theorem am_J_32 : am_okJ 32 := ⟨tm 598 (by decide +kernel), tm 62 (by decide +kernel), rfl, plainFor_of_name (by decide +kernel), by decide +kernel, by decide +kernel, by decide +kernel⟩
theorem am_J_33 : am_okJ 33 := ⟨tm 604 (by decide +kernel), tm 62 (by decide +kernel), rfl, plainFor_of_name (by decide +kernel), by decide +kernel, by decide +kernel, by decide +kernel⟩
theorem am_J_34 : am_okJ 34 := ⟨tm 612 (by decide +kernel), tm 62 (by decide +kernel), rfl, plainFor_of_name (by decide +kernel), by decide +kernel, by decide +kernel, by decide +kernel⟩
theorem am_J_35 : am_okJ 35 := ⟨tm 640 (by decide +kernel), tm 62 (by decide +kernel), rfl, plainFor_of_name (by decide +kernel), by decide +kernel, by decide +kernel, by decide +kernel⟩
theorem am_J_36 : am_okJ 36 := ⟨tm 636 (by decide +kernel), tm 62 (by decide +kernel), rfl, plainFor_of_name (by decide +kernel), by decide +kernel, by decide +kernel, by decide +kernel⟩
theorem am_J_37 : am_okJ 37 := ⟨tm 644 (by decide +kernel), tm 62 (by decide +kernel), rfl, plainFor_of_name (by decide +kernel), by decide +kernel, by decide +kernel, by decide +kernel⟩
theorem am_J_38 : am_okJ 38 := ⟨tm 688 (by decide +kernel), tm 62 (by decide +kernel), rfl, plainFor_of_name (by decide +kernel), by decide +kernel, by decide +kernel, by decide +kernel⟩
theorem am_J_39 : am_okJ 39 := ⟨tm 662 (by decide +kernel), tm 62 (by decide +kernel), rfl, plainFor_of_name (by decide +kernel), by decide +kernel, by decide +kernel, by decide +kernel⟩
theorem am_J_40 : am_okJ 40 := ⟨tm 666 (by decide +kernel), tm 62 (by decide +kernel), rfl, plainFor_of_name (by decide +kernel), by decide +kernel, by decide +kernel, by decide +kernel⟩
theorem am_J_41 : am_okJ 41 := ⟨tm 144 (by decide +kernel), tm 61 (by decide +kernel), rfl, plainFor_of_name (by decide +kernel), by decide +kernel, by decide +kernel, by decide +kernel⟩
theorem am_J_42 : am_okJ 42 := ⟨tm 355 (by decide +kernel), tm 61 (by decide +kernel), rfl, plainFor_of_name (by decide +kernel), by decide +kernel, by decide +kernel, by decide +kernel⟩
theorem am_J_43 : am_okJ 43 := ⟨tm 415 (by decide +kernel), tm 61 (by decide +kernel), rfl, plainFor_of_name (by decide +kernel), by decide +kernel, by decide +kernel, by decide +kernel⟩
theorem am_J_44 : am_okJ 44 := ⟨tm 419 (by decide +kernel), tm 61 (by decide +kernel), rfl, plainFor_of_name (by decide +kernel), by decide +kernel, by decide +kernel, by decide +kernel⟩
theorem am_J_45 : am_okJ 45 := ⟨tm 452 (by decide +kernel), tm 61 (by decide +kernel), rfl, plainFor_of_name (by decide +kernel), by decide +kernel, by decide +kernel, by decide +kernel⟩
theorem am_J_46 : am_okJ 46 := ⟨tm 461 (by decide +kernel), tm 61 (by decide +kernel), rfl, plainFor_of_name (by decide +kernel), by decide +kernel, by decide +kernel, by decide +kernel⟩
theorem am_J_47 : am_okJ 47 := ⟨tm 456 (by decide +kernel), tm 61 (by decide +kernel), rfl, plainFor_of_name (by decide +kernel), by decide +kernel, by decide +kernel, by decide +kernel⟩
theorem am_J_48 : am_okJ 48 := ⟨tm 448 (by decide +kernel), tm 61 (by decide +kernel), rfl, plainFor_of_name (by decide +kernel), by decide +kernel, by decide +kernel, by decide +kernel⟩
theorem am_J_49 : am_okJ 49 := ⟨tm 786 (by decide +kernel), tm 61 (by decide +kernel), rfl, plainFor_of_name (by decide +kernel), by decide +kernel, by decide +kernel, by decide +kernel⟩
theorem am_J_50 : am_okJ 50 := ⟨tm 790 (by decide +kernel), tm 61 (by decide +kernel), rfl, plainFor_of_name (by decide +kernel), by decide +kernel, by decide +kernel, by decide +kernel⟩
theorem am_J_51 : am_okJ 51 := ⟨tm 795 (by decide +kernel), tm 61 (by decide +kernel), rfl, plainFor_of_name (by decide +kernel), by decide +kernel, by decide +kernel, by decide +kernel⟩
theorem am_J_52 : am_okJ 52 := ⟨tm 803 (by decide +kernel), tm 61 (by decide +kernel), rfl, plainFor_of_name (by decide +kernel), by decide +kernel, by decide +kernel, by decide +kernel⟩
theorem am_J_53 : am_okJ 53 := ⟨tm 811 (by decide +kernel), tm 61 (by decide +kernel), rfl, plainFor_of_name (by decide +kernel), by decide +kernel, by decide +kernel, by decide +kernel⟩
theorem am_J_54 : am_okJ 54 := ⟨tm 815 (by decide +kernel), tm 61 (by decide +kernel), rfl, plainFor_of_name (by decide +kernel), by decide +kernel, by decide +kernel, by decide +kernel⟩
theorem am_J_55 : am_okJ 55 := ⟨tm 819 (by decide +kernel), tm 61 (by decide +kernel), rfl, plainFor_of_name (by decide +kernel), by decide +kernel, by decide +kernel, by decide +kernel⟩
theorem am_J_56 : am_okJ 56 := ⟨tm 652 (by decide +kernel), tm 61 (by decide +kernel), rfl, plainFor_of_name (by decide +kernel), by decide +kernel, by decide +kernel, by decide +kernel⟩
theorem am_J_57 : am_okJ 57 := ⟨tm 648 (by decide +kernel), tm 61 (by decide +kernel), rfl, plainFor_of_name (by decide +kernel), by decide +kernel, by decide +kernel, by decide +kernel⟩
theorem am_J_58 : am_okJ 58 := ⟨tm 678 (by decide +kernel), tm 61 (by decide +kernel), rfl, plainFor_of_name (by decide +kernel), by decide +kernel, by decide +kernel, by decide +kernel⟩
theorem am_J_59 : am_okJ 59 := ⟨tm 670 (by decide +kernel), tm 61 (by decide +kernel), rfl, plainFor_of_name (by decide +kernel), by decide +kernel, by decide +kernel, by decide +kernel⟩
theorem am_J_60 : am_okJ 60 := ⟨tm 674 (by decide +kernel), tm 61 (by decide +kernel), rfl, plainFor_of_name (by decide +kernel), by decide +kernel, by decide +kernel, by decide +kernel⟩
theorem am_J_61 : am_okJ 61 := ⟨tm 738 (by decide +kernel), tm 61 (by decide +kernel), rfl, plainFor_of_name (by decide +kernel), by decide +kernel, by decide +kernel, by decide +kernel⟩
theorem am_J_62 : am_okJ 62 := ⟨tm 91 (by decide +kernel), tm 59 (by decide +kernel), rfl, plainFor_of_name (by decide +kernel), by decide +kernel, by decide +kernel, by decide +kernel⟩
theorem am_J_63 : am_okJ 63 := ⟨tm 316 (by decide +kernel), tm 59 (by decide +kernel), rfl, plainFor_of_name (by decide +kernel), by decide +kernel, by decide +kernel, by decide +kernel⟩
theorem am_J_64 : am_okJ 64 := ⟨tm 311 (by decide +kernel), tm 59 (by decide +kernel), rfl, plainFor_of_name (by decide +kernel), by decide +kernel, by decide +kernel, by decide +kernel⟩
theorem am_J_65 : am_okJ 65 := ⟨tm 407 (by decide +kernel), tm 59 (by decide +kernel), rfl, plainFor_of_name (by decide +kernel), by decide +kernel, by decide +kernel, by decide +kernel⟩
theorem am_J_66 : am_okJ 66 := ⟨tm 332 (by decide +kernel), tm 59 (by decide +kernel), rfl, plainFor_of_name (by decide +kernel), by decide +kernel, by decide +kernel, by decide +kernel⟩
theorem am_J_67 : am_okJ 67 := ⟨tm 339 (by decide +kernel), tm 59 (by decide +kernel), rfl, plainFor_of_name (by decide +kernel), by decide +kernel, by decide +kernel, by decide +kernel⟩
theorem am_J_68 : am_okJ 68 := ⟨tm 347 (by decide +kernel), tm 59 (by decide +kernel), rfl, plainFor_of_name (by decide +kernel), by decide +kernel, by decide +kernel, by decide +kernel⟩
theorem am_J_69 : am_okJ 69 := ⟨tm 328 (by decide +kernel), tm 59 (by decide +kernel), rfl, plainFor_of_name (by decide +kernel), by decide +kernel, by decide +kernel, by decide +kernel⟩
theorem am_J_70 : am_okJ 70 := ⟨tm 343 (by decide +kernel), tm 59 (by decide +kernel), rfl, plainFor_of_name (by decide +kernel), by decide +kernel, by decide +kernel, by decide +kernel⟩
theorem am_J_71 : am_okJ 71 := ⟨tm 359 (by decide +kernel), tm 59 (by decide +kernel), rfl, plainFor_of_name (by decide +kernel), by decide +kernel, by decide +kernel, by decide +kernel⟩
theorem am_J_72 : am_okJ 72 := ⟨tm 371 (by decide +kernel), tm 59 (by decide +kernel), rfl, plainFor_of_name (by decide +kernel), by decide +kernel, by decide +kernel, by decide +kernel⟩
theorem am_J_73 : am_okJ 73 := ⟨tm 367 (by decide +kernel), tm 59 (by decide +kernel), rfl, plainFor_of_name (by decide +kernel), by decide +kernel, by decide +kernel, by decide +kernel⟩
theorem am_J_74 : am_okJ 74 := ⟨tm 399 (by decide +kernel), tm 59 (by decide +kernel), rfl, plainFor_of_name (by decide +kernel), by decide +kernel, by decide +kernel, by decide +kernel⟩
theorem am_J_75 : am_okJ 75 := ⟨tm 403 (by decide +kernel), tm 59 (by decide +kernel), rfl, plainFor_of_name (by decide +kernel), by decide +kernel, by decide +kernel, by decide +kernel⟩
theorem am_J_76 : am_okJ 76 := ⟨tm 335 (by decide +kernel), tm 69 (by decide +kernel), rfl, plainFor_of_name (by decide +kernel), by decide +kernel, by decide +kernel, by decide +kernel⟩
theorem am_J_77 : am_okJ 77 := ⟨tm 350 (by decide +kernel), tm 69 (by decide +kernel), rfl, plainFor_of_name (by decide +kernel), by decide +kernel, by decide +kernel, by decide +kernel⟩
theorem am_J_78 : am_okJ 78 := ⟨tm 395 (by decide +kernel), tm 69 (by decide +kernel), rfl, plainFor_of_name (by decide +kernel), by decide +kernel, by decide +kernel, by decide +kernel⟩
theorem am_J_79 : am_okJ 79 := ⟨tm 392 (by decide +kernel), tm 69 (by decide +kernel), rfl, plainFor_of_name (by decide +kernel), by decide +kernel, by decide +kernel, by decide +kernel⟩
theorem am_J_80 : am_okJ 80 := ⟨tm 386 (by decide +kernel), tm 69 (by decide +kernel), rfl, plainFor_of_name (by decide +kernel), by decide +kernel, by decide +kernel, by decide +kernel⟩
theorem am_J_81 : am_okJ 81 := ⟨tm 778 (by decide +kernel), tm 69 (by decide +kernel), rfl, plainFor_of_name (by decide +kernel), by decide +kernel, by decide +kernel, by decide +kernel⟩
theorem am_J_82 : am_okJ 82 := ⟨tm 681 (by decide +kernel), tm 69 (by decide +kernel), rfl, plainFor_of_name (by decide +kernel), by decide +kernel, by decide +kernel, by decide +kernel⟩
theorem am_J_83 : am_okJ 83 := ⟨tm 731 (by decide +kernel), tm 69 (by decide +kernel), rfl, plainFor_of_name (by decide +kernel), by decide +kernel, by decide +kernel, by decide +kernel⟩
theorem am_J_84 : am_okJ 84 := ⟨tm 83 (by decide +kernel), tm 58 (by decide +kernel), rfl, plainFor_of_name (by decide +kernel), by decide +kernel, by decide +kernel, by decide +kernel⟩
theorem am_J_85 : am_okJ 85 := ⟨tm 307 (by decide +kernel), tm 58 (by decide +kernel), rfl, plainFor_of_name (by decide +kernel), by decide +kernel, by decide +kernel, by decide +kernel⟩
theorem am_J_86 : am_okJ 86 := ⟨tm 320 (by decide +kernel), tm 58 (by decide +kernel), rfl, plainFor_of_name (by decide +kernel), by decide +kernel, by decide +kernel, by decide +kernel⟩
theorem am_J_87 : am_okJ 87 := ⟨tm 411 (by decide +kernel), tm 58 (by decide +kernel), rfl, plainFor_of_name (by decide +kernel), by decide +kernel, by decide +kernel, by decide +kernel⟩
theorem am_J_88 : am_okJ 88 := ⟨tm 423 (by decide +kernel), tm 58 (by decide +kernel), rfl, plainFor_of_name (by decide +kernel), by decide +kernel, by decide +kernel, by decide +kernel⟩
theorem am_J_89 : am_okJ 89 := ⟨tm 465 (by decide +kernel), tm 58 (by decide +kernel), rfl, plainFor_of_name (by decide +kernel), by decide +kernel, by decide +kernel, by decide +kernel⟩
theorem am_J_90 : am_okJ 90 := ⟨tm 477 (by decide +kernel), tm 58 (by decide +kernel), rfl, plainFor_of_name (by decide +kernel), by decide +kernel, by decide +kernel, by decide +kernel⟩
theorem am_J_91 : am_okJ 91 := ⟨tm 491 (by decide +kernel), tm 58 (by decide +kernel), rfl, plainFor_of_name (by decide +kernel), by decide +kernel, by decide +kernel, by decide +kernel⟩
theorem am_J_92 : am_okJ 92 := ⟨tm 700 (by decide +kernel), tm 58 (by decide +kernel), rfl, plainFor_of_name (by decide +kernel), by decide +kernel, by decide +kernel, by decide +kernel⟩
theorem am_J_93 : am_okJ 93 := ⟨tm 712 (by decide +kernel), tm 58 (by decide +kernel), rfl, plainFor_of_name (by decide +kernel), by decide +kernel, by decide +kernel, by decide +kernel⟩
theorem am_J_94 : am_okJ 94 := ⟨tm 720 (by decide +kernel), tm 58 (by decide +kernel), rfl, plainFor_of_name (by decide +kernel), by decide +kernel, by decide +kernel, by decide +kernel⟩
theorem am_J_95 : am_okJ 95 := ⟨tm 767 (by decide +kernel), tm 58 (by decide +kernel), rfl, plainFor_of_name (by decide +kernel), by decide +kernel, by decide +kernel, by decide +kernel⟩
theorem am_J_96 : am_okJ 96 := ⟨tm 775 (by decide +kernel), tm 58 (by decide +kernel), rfl, plainFor_of_name (by decide +kernel), by decide +kernel, by decide +kernel, by decide +kernel⟩
theorem am_J_97 : am_okJ 97 := ⟨tm 782 (by decide +kernel), tm 58 (by decide +kernel), rfl, plainFor_of_name (by decide +kernel), by decide +kernel, by decide +kernel, by decide +kernel⟩
theorem am_J_98 : am_okJ 98 := ⟨tm 799 (by decide +kernel), tm 58 (by decide +kernel), rfl, plainFor_of_name (by decide +kernel), by decide +kernel, by decide +kernel, by decide +kernel⟩
theorem am_J_99 : am_okJ 99 := ⟨tm 807 (by decide +kernel), tm 58 (by decide +kernel), rfl, plainFor_of_name (by decide +kernel), by decide +kernel, by decide +kernel, by decide +kernel⟩
theorem am_J_100 : am_okJ 100 := ⟨tm 324 (by decide +kernel), tm 58 (by decide +kernel), rfl, plainFor_of_name (by decide +kernel), by decide +kernel, by decide +kernel, by decide +kernel⟩
theorem am_J_101 : am_okJ 101 := ⟨tm 481 (by decide +kernel), tm 58 (by decide +kernel), rfl, plainFor_of_name (by decide +kernel), by decide +kernel, by decide +kernel, by decide +kernel⟩
theorem am_J_102 : am_okJ 102 := ⟨tm 486 (by decide +kernel), tm 58 (by decide +kernel), rfl, plainFor_of_name (by decide +kernel), by decide +kernel, by decide +kernel, by decide +kernel⟩
theorem am_J_103 : am_okJ 103 := ⟨tm 824 (by decide +kernel), tm 68 (by decide +kernel), rfl, plainFor_of_name (by decide +kernel), by decide +kernel, by decide +kernel, by decide +kernel⟩
theorem am_J_104 : am_okJ 104 := ⟨tm 961 (by decide +kernel), tm 68 (by decide +kernel), rfl, plainFor_of_name (by decide +kernel), by decide +kernel, by decide +kernel, by decide +kernel⟩
theorem am_J_105 : am_okJ 105 := ⟨tm 957 (by decide +kernel), tm 68 (by decide +kernel), rfl, plainFor_of_name (by decide +kernel), by decide +kernel, by decide +kernel, by decide +kernel⟩
theorem am_J_106 : am_okJ 106 := ⟨tm 1032 (by decide +kernel), tm 68 (by decide +kernel), rfl, plainFor_of_name (by decide +kernel), by decide +kernel, by decide +kernel, by decide +kernel⟩
theorem am_J_107 : am_okJ 107 := ⟨tm 949 (by decide +kernel), tm 68 (by decide +kernel), rfl, plainFor_of_name (by decide +kernel), by decide +kernel, by decide +kernel, by decide +kernel⟩
theorem am_J_108 : am_okJ 108 := ⟨tm 965 (by decide +kernel), tm 68 (by decide +kernel), rfl, plainFor_of_name (by decide +kernel), by decide +kernel, by decide +kernel, by decide +kernel⟩
theorem am_J_109 : am_okJ 109 := ⟨tm 945 (by decide +kernel), tm 68 (by decide +kernel), rfl, plainFor_of_name (by decide +kernel), by decide +kernel, by decide +kernel, by decide +kernel⟩
theorem am_J_110 : am_okJ 110 := ⟨tm 931 (by decide +kernel), tm 68 (by decide +kernel), rfl, plainFor_of_name (by decide +kernel), by decide +kernel, by decide +kernel, by decide +kernel⟩
theorem am_J_111 : am_okJ 111 := ⟨tm 942 (by decide +kernel), tm 68 (by decide +kernel), rfl, plainFor_of_name (by decide +kernel), by decide +kernel, by decide +kernel, by decide +kernel⟩
theorem am_J_112 : am_okJ 112 := ⟨tm 938 (by decide +kernel), tm 68 (by decide +kernel), rfl, plainFor_of_name (by decide +kernel), by decide +kernel, by decide +kernel, by decide +kernel⟩
theorem am_J_113 : am_okJ 113 := ⟨tm 953 (by decide +kernel), tm 68 (by decide +kernel), rfl, plainFor_of_name (by decide +kernel), by decide +kernel, by decide +kernel, by decide +kernel⟩
theorem am_J_114 : am_okJ 114 := ⟨tm 935 (by decide +kernel), tm 68 (by decide +kernel), rfl, plainFor_of_name (by decide +kernel), by decide +kernel, by decide +kernel, by decide +kernel⟩
theorem am_J_115 : am_okJ 115 := ⟨tm 972 (by decide +kernel), tm 68 (by decide +kernel), rfl, plainFor_of_name (by decide +kernel), by decide +kernel, by decide +kernel, by decide +kernel⟩
theorem am_J_116 : am_okJ 116 := ⟨tm 969 (by decide +kernel), tm 68 (by decide +kernel), rfl, plainFor_of_name (by decide +kernel), by decide +kernel, by decide +kernel, by decide +kernel⟩
theorem am_J_117 : am_okJ 117 := ⟨tm 984 (by decide +kernel), tm 68 (by decide +kernel), rfl, plainFor_of_name (by decide +kernel), by decide +kernel, by decide +kernel, by decide +kernel⟩
theorem am_J_118 : am_okJ 118 := ⟨tm 980 (by decide +kernel), tm 68 (by decide +kernel), rfl, plainFor_of_name (by decide +kernel), by decide +kernel, by decide +kernel, by decide +kernel⟩
theorem am_J_119 : am_okJ 119 := ⟨tm 988 (by decide +kernel), tm 68 (by decide +kernel), rfl, plainFor_of_name (by decide +kernel), by decide +kernel, by decide +kernel, by decide +kernel⟩
theorem am_J_120 : am_okJ 120 := ⟨tm 976 (by decide +kernel), tm 68 (by decide +kernel), rfl, plainFor_of_name (by decide +kernel), by decide +kernel, by decide +kernel, by decide +kernel⟩
theorem am_J_121 : am_okJ 121 := ⟨tm 992 (by decide +kernel), tm 68 (by decide +kernel), rfl, plainFor_of_name (by decide +kernel), by decide +kernel, by decide +kernel, by decide +kernel⟩
theorem am_J_122 : am_okJ 122 := ⟨tm 996 (by decide +kernel), tm 68 (by decide +kernel), rfl, plainFor_of_name (by decide +kernel), by decide +kernel, by decide +kernel, by decide +kernel⟩
theorem am_J_123 : am_okJ 123 := ⟨tm 1000 (by decide +kernel), tm 68 (by decide +kernel), rfl, plainFor_of_name (by decide +kernel), by decide +kernel, by decide +kernel, by decide +kernel⟩
theorem am_J_124 : am_okJ 124 := ⟨tm 1008 (by decide +kernel), tm 68 (by decide +kernel), rfl, plainFor_of_name (by decide +kernel), by decide +kernel, by decide +kernel, by decide +kernel⟩
theorem am_J_125 : am_okJ 125 := ⟨tm 1004 (by decide +kernel), tm 68 (by decide +kernel), rfl, plainFor_of_name (by decide +kernel), by decide +kernel, by decide +kernel, by decide +kernel⟩
theorem am_J_126 : am_okJ 126 := ⟨tm 1012 (by decide +kernel), tm 68 (by decide +kernel), rfl, plainFor_of_name (by decide +kernel), by decide +kernel, by decide +kernel, by decide +kernel⟩
theorem am_J_127 : am_okJ 127 := ⟨tm 1016 (by decide +kernel), tm 68 (by decide +kernel), rfl, plainFor_of_name (by decide +kernel), by decide +kernel, by decide +kernel, by decide +kernel⟩
theorem am_J_128 : am_okJ 128 := ⟨tm 1028 (by decide +kernel), tm 68 (by decide +kernel), rfl, plainFor_of_name (by decide +kernel), by decide +kernel, by decide +kernel, by decide +kernel⟩
theorem am_J_129 : am_okJ 129 := ⟨tm 1092 (by decide +kernel), tm 68 (by decide +kernel), rfl, plainFor_of_name (by decide +kernel), by decide +kernel, by decide +kernel, by decide +kernel⟩
theorem am_J_130 : am_okJ 130 := ⟨tm 1020 (by decide +kernel), tm 68 (by decide +kernel), rfl, plainFor_of_name (by decide +kernel), by decide +kernel, by decide +kernel, by decide +kernel⟩
theorem am_J_131 : am_okJ 131 := ⟨tm 1024 (by decide +kernel), tm 68 (by decide +kernel), rfl, plainFor_of_name (by decide +kernel), by decide +kernel, by decide +kernel, by decide +kernel⟩
theorem am_J_132 : am_okJ 132 := ⟨tm 1048 (by decide +kernel), tm 68 (by decide +kernel), rfl, plainFor_of_name (by decide +kernel), by decide +kernel, by decide +kernel, by decide +kernel⟩
theorem am_J_133 : am_okJ 133 := ⟨tm 1060 (by decide +kernel), tm 68 (by decide +kernel), rfl, plainFor_of_name (by decide +kernel), by decide +kernel, by decide +kernel, by decide +kernel⟩
theorem am_J_134 : am_okJ 134 := ⟨tm 1044 (by decide +kernel), tm 68 (by decide +kernel), rfl, plainFor_of_name (by decide +kernel), by decide +kernel, by decide +kernel, by decide +kernel⟩
theorem am_J_135 : am_okJ 135 := ⟨tm 1056 (by decide +kernel), tm 68 (by decide +kernel), rfl, plainFor_of_name (by decide +kernel), by decide +kernel, by decide +kernel, by decide +kernel⟩
theorem am_J_136 : am_okJ 136 := ⟨tm 1052 (by decide +kernel), tm 68 (by decide +kernel), rfl, plainFor_of_name (by decide +kernel), by decide +kernel, by decide +kernel, by decide +kernel⟩
theorem am_J_137 : am_okJ 137 := ⟨tm 1068 (by decide +kernel), tm 68 (by decide +kernel), rfl, plainFor_of_name (by decide +kernel), by decide +kernel, by decide +kernel, by decide +kernel⟩
theorem am_J_138 : am_okJ 138 := ⟨tm 1064 (by decide +kernel), tm 68 (by decide +kernel), rfl, plainFor_of_name (by decide +kernel), by decide +kernel, by decide +kernel, by decide +kernel⟩
theorem am_J_139 : am_okJ 139 := ⟨tm 1040 (by decide +kernel), tm 68 (by decide +kernel), rfl, plainFor_of_name (by decide +kernel), by decide +kernel, by decide +kernel, by decide +kernel⟩
theorem am_J_140 : am_okJ 140 := ⟨tm 1088 (by decide +kernel), tm 68 (by decide +kernel), rfl, plainFor_of_name (by decide +kernel), by decide +kernel, by decide +kernel, by decide +kernel⟩
theorem am_J_141 : am_okJ 141 := ⟨tm 1084 (by decide +kernel), tm 68 (by decide +kernel), rfl, plainFor_of_name (by decide +kernel), by decide +kernel, by decide +kernel, by decide +kernel⟩
theorem am_J_142 : am_okJ 142 := ⟨tm 1080 (by decide +kernel), tm 68 (by decide +kernel), rfl, plainFor_of_name (by decide +kernel), by decide +kernel, by decide +kernel, by decide +kernel⟩
theorem am_J_143 : am_okJ 143 := ⟨tm 1076 (by decide +kernel), tm 68 (by decide +kernel), rfl, plainFor_of_name (by decide +kernel), by decide +kernel, by decide +kernel, by decide +kernel⟩
theorem am_J_144 : am_okJ 144 := ⟨tm 1072 (by decide +kernel), tm 68 (by decide +kernel), rfl, plainFor_of_name (by decide +kernel), by decide +kernel, by decide +kernel, by decide +kernel⟩
theorem am_J_145 : am_okJ 145 := ⟨tm 1096 (by decide +kernel), tm 68 (by decide +kernel), rfl, plainFor_of_name (by decide +kernel), by decide +kernel, by decide +kernel, by decide +kernel⟩
theorem am_J_146 : am_okJ 146 := ⟨tm 1036 (by decide +kernel), tm 68 (by decide +kernel), rfl, plainFor_of_name (by decide +kernel), by decide +kernel, by decide +kernel, by decide +kernel⟩
theorem am_J_147 : am_okJ 147 := ⟨tm 1101 (by decide +kernel), tm 68 (by decide +kernel), rfl, plainFor_of_name (by decide +kernel), by decide +kernel, by decide +kernel, by decide +kernel⟩
theorem am_J_148 : am_okJ 148 := ⟨tm 1105 (by decide +kernel), tm 68 (by decide +kernel), rfl, plainFor_of_name (by decide +kernel), by decide +kernel, by decide +kernel, by decide +kernel⟩
theorem am_J_149 : am_okJ 149 := ⟨tm 1113 (by decide +kernel), tm 68 (by decide +kernel), rfl, plainFor_of_name (by decide +kernel), by decide +kernel, by decide +kernel, by decide +kernel⟩
theorem am_J_150 : am_okJ 150 := ⟨tm 1121 (by decide +kernel), tm 68 (by decide +kernel), rfl, plainFor_of_name (by decide +kernel), by decide +kernel, by decide +kernel, by decide +kernel⟩
theorem am_J_151 : am_okJ 151 := ⟨tm 1109 (by decide +kernel), tm 68 (by decide +kernel), rfl, plainFor_of_name (by decide +kernel), by decide +kernel, by decide +kernel, by decide +kernel⟩
theorem am_J_152 : am_okJ 152 := ⟨tm 1117 (by decide +kernel), tm 68 (by decide +kernel), rfl, plainFor_of_name (by decide +kernel), by decide +kernel, by decide +kernel, by decide +kernel⟩
theorem am_J_153 : am_okJ 153 := ⟨tm 1125 (by decide +kernel), tm 68 (by decide +kernel), rfl, plainFor_of_name (by decide +kernel), by decide +kernel, by decide +kernel, by decide +kernel⟩
theorem am_J_155 : am_okJ 155 := ⟨tm 188 (by decide +kernel), tm 65 (by decide +kernel), rfl, by decide +kernel, by decide +kernel, by decide +kernel, by decide +kernel⟩
theorem am_J_156 : am_okJ 156 := ⟨tm 558 (by decide +kernel), tm 65 (by decide +kernel), rfl, by decide +kernel, by decide +kernel, by decide +kernel, by decide +kernel⟩
theorem am_J_157 : am_okJ 157 := ⟨tm 554 (by decide +kernel), tm 65 (by decide +kernel), rfl, by decide +kernel, by decide +kernel, by decide +kernel, by decide +kernel⟩
theorem am_J_158 : am_okJ 158 := ⟨tm 616 (by decide +kernel), tm 65 (by decide +kernel), rfl, by decide +kernel, by decide +kernel, by decide +kernel, by decide +kernel⟩
theorem am_J_159 : am_okJ 159 := ⟨tm 630 (by decide +kernel), tm 65 (by decide +kernel), rfl, by decide +kernel, by decide +kernel, by decide +kernel, by decide +kernel⟩
theorem am_J_160 : am_okJ 160 := ⟨tm 620 (by decide +kernel), tm 65 (by decide +kernel), rfl, by decide +kernel, by decide +kernel, by decide +kernel, by decide +kernel⟩
theorem am_J_161 : am_okJ 161 := ⟨tm 550 (by decide +kernel), tm 65 (by decide +kernel), rfl, by decide +kernel, by decide +kernel, by decide +kernel, by decide +kernel⟩
theorem am_J_162 : am_okJ 162 := ⟨tm 546 (by decide +kernel), tm 65 (by decide +kernel), rfl, by decide +kernel, by decide +kernel, by decide +kernel, by decide +kernel⟩
theorem am_J_163 : am_okJ 163 := ⟨tm 499 (by decide +kernel), tm 65 (by decide +kernel), rfl, by decide +kernel, by decide +kernel, by decide +kernel, by decide +kernel⟩
theorem am_J_164 : am_okJ 164 := ⟨tm 191 (by decide +kernel), tm 64 (by decide +kernel), rfl, by decide +kernel, by decide +kernel, by decide +kernel, by decide +kernel⟩
theorem am_J_165 : am_okJ 165 := ⟨tm 194 (by decide +kernel), tm 63 (by decide +kernel), rfl, by decide +kernel, by decide +kernel, by decide +kernel, by decide +kernel⟩
theorem am_J_166 : am_okJ 166 := ⟨tm 571 (by decide +kernel), tm 70 (by decide +kernel), rfl, by decide +kernel, by decide +kernel, by decide +kernel, by decide +kernel⟩
theorem am_J_167 : am_okJ 167 := ⟨tm 589 (by decide +kernel), tm 70 (by decide +kernel), rfl, by decide +kernel, by decide +kernel, by decide +kernel, by decide +kernel⟩
theorem am_J_168 : am_okJ 168 := ⟨tm 431 (by decide +kernel), tm 70 (by decide +kernel), rfl, by decide +kernel, by decide +kernel, by decide +kernel, by decide +kernel⟩
theorem am_J_169 : am_okJ 169 := ⟨tm 623 (by decide +kernel), tm 77 (by decide +kernel), rfl, by decide +kernel, by decide +kernel, by decide +kernel, by decide +kernel⟩
theorem am_J_170 : am_okJ 170 := ⟨tm 561 (by decide +kernel), tm 76 (by decide +kernel), rfl, by decide +kernel, by decide +kernel, by decide +kernel, by decide +kernel⟩
theorem am_J_171 : am_okJ 171 := ⟨tm 626 (by decide +kernel), tm 78 (by decide +kernel), rfl, by decide +kernel, by decide +kernel, by decide +kernel, by decide +kernel⟩
/-- words that are carried from state to state by laws of their own -/
def am_NW : List Cond := [(Cond.methodLinkNest "TextIndices" (9 : Nat) ({ cls := "TextIndices$Tape", name := "<init>", desc := "()V" } : MethodName) "TextIndices"), (Cond.methodLinkNest "TextIndices" (27 : Nat) ({ cls := "TextIndices$Shelf", name := "<init>", desc := "()V" } : MethodName) "TextIndices"), (Cond.methodLinkNest "TextIndices" (43 : Nat) ({ cls := "TextIndices$Answers", name := "<init>", desc := "()V" } : MethodName) "TextIndices"), (Cond.methodLinkNest "TextIndices" (50 : Nat) ({ cls := "TextIndices$Likes", name := "<init>", desc := "()V" } : MethodName) "TextIndices"), (Cond.castable "TextIndices$Part" "java/lang/Object")]
theorem am_NW_0 : (Cond.methodLinkNest "TextIndices" (9 : Nat) ({ cls := "TextIndices$Tape", name := "<init>", desc := "()V" } : MethodName) "TextIndices") ∈ lw_tbl := tn 89 (by decide +kernel)
theorem am_NW_1 : (Cond.methodLinkNest "TextIndices" (27 : Nat) ({ cls := "TextIndices$Shelf", name := "<init>", desc := "()V" } : MethodName) "TextIndices") ∈ lw_tbl := tn 142 (by decide +kernel)
theorem am_NW_2 : (Cond.methodLinkNest "TextIndices" (43 : Nat) ({ cls := "TextIndices$Answers", name := "<init>", desc := "()V" } : MethodName) "TextIndices") ∈ lw_tbl := tn 240 (by decide +kernel)
theorem am_NW_3 : (Cond.methodLinkNest "TextIndices" (50 : Nat) ({ cls := "TextIndices$Likes", name := "<init>", desc := "()V" } : MethodName) "TextIndices") ∈ lw_tbl := tn 256 (by decide +kernel)
theorem am_NW_4 : (Cond.castable "TextIndices$Part" "java/lang/Object") ∈ lw_tbl := tn 1136 (by decide +kernel)
theorem am_NW_in : ∀ w ∈ am_NW, w ∈ lw_tbl := List.forall_mem_cons.mpr ⟨am_NW_0, List.forall_mem_cons.mpr ⟨am_NW_1, List.forall_mem_cons.mpr ⟨am_NW_2, List.forall_mem_cons.mpr ⟨am_NW_3, List.forall_mem_cons.mpr ⟨am_NW_4, fun _ h => absurd h List.not_mem_nil⟩⟩⟩⟩⟩
theorem am_NW_use {w : Cond} (h : w ∈ am_NW) : (∃ own ix y hst, w = .methodLinkNest own ix y hst) ∨ ∃ C T, w = .castable C T := by
  simp only [am_NW, List.mem_cons, List.not_mem_nil, or_false] at h
  rcases h with rfl | rfl | rfl | rfl | rfl <;> simp
def am_okM (q : Nat × Nat × Nat × Nat) : Prop := am_okJ q.2.2.2 ∧ (match q.2.2.1 with
  | 0 => Cond.methodLink (am_on q.1) q.2.1 (am_y q.2.2.2) ∈ am_T ∧ Cond.instanceMethod (am_y q.2.2.2) ∈ am_T ∧ Cond.selects (am_y q.2.2.2).cls (am_y q.2.2.2) (am_y q.2.2.2) ∈ am_T ∧ ∃ (T : u_T) (N : Nat), am_cl[am_kc q.2.2.2]? = some ((am_y q.2.2.2).cls, T, N)
  | 1 => Cond.methodLink (am_on q.1) q.2.1 (am_y q.2.2.2) ∈ am_T ∧ Cond.instanceMethod (am_y q.2.2.2) ∈ am_T ∧ (am_y q.2.2.2).name = "<init>" ∧ am_rt q.2.2.2 = none
  | 2 => Cond.methodLinkNest (am_on q.1) q.2.1 (am_y q.2.2.2) "TextIndices" ∈ am_NW ∧ Cond.instanceMethod (am_y q.2.2.2) ∈ am_T ∧ (am_y q.2.2.2).name = "<init>" ∧ am_rt q.2.2.2 = none
  | 3 => Cond.methodLink (am_on q.1) q.2.1 (am_y q.2.2.2) ∈ am_T ∧ Cond.static (am_y q.2.2.2) ∈ am_T
  | _ => False)
def am_ML : List (Nat × Nat × Nat × Nat) := [(8, 9, 2, 62), (8, 22, 1, 7), (8, 27, 2, 41), (8, 34, 1, 27), (8, 43, 2, 0), (8, 50, 2, 16), (8, 61, 0, 64), (8, 65, 0, 63), (8, 69, 0, 100), (8, 73, 0, 69), (8, 76, 0, 42), (8, 80, 0, 65), (8, 83, 0, 43), (8, 87, 0, 73), (8, 91, 0, 10), (8, 95, 0, 48), (8, 99, 0, 12), (8, 103, 0, 11), (8, 106, 0, 101), (8, 110, 0, 13), (8, 114, 0, 102), (8, 118, 0, 28), (8, 121, 0, 34), (8, 124, 0, 36), (8, 128, 0, 1), (8, 129, 0, 45), (8, 133, 0, 39), (8, 137, 0, 38), (8, 141, 0, 3), (8, 145, 0, 2), (8, 148, 0, 5), (8, 152, 0, 6), (8, 155, 0, 17), (8, 156, 0, 20), (8, 160, 0, 18), (8, 161, 0, 19), (8, 162, 3, 80), (8, 165, 3, 81), (8, 169, 0, 49), (8, 173, 0, 50), (8, 177, 0, 51), (8, 180, 0, 52), (8, 183, 0, 53), (0, 25, 0, 4), (1, 26, 0, 9), (1, 30, 3, 168), (1, 39, 3, 80), (1, 45, 3, 14), (1, 49, 3, 79), (1, 53, 3, 78), (1, 56, 0, 13), (2, 36, 3, 83), (2, 43, 0, 45), (2, 47, 0, 47), (2, 51, 0, 46), (2, 54, 0, 61), (2, 58, 0, 21), (2, 62, 0, 22), (2, 66, 0, 25), (2, 69, 0, 23), (2, 72, 0, 24), (4, 11, 1, 155), (4, 34, 0, 163), (4, 47, 0, 29), (4, 50, 0, 63), (4, 54, 0, 66), (4, 58, 0, 30), (4, 62, 0, 31), (4, 66, 0, 32), (4, 83, 1, 26), (4, 86, 0, 162), (4, 90, 0, 33), (4, 97, 0, 67), (4, 100, 0, 68), (4, 104, 0, 158), (4, 107, 0, 160), (4, 125, 0, 15), (4, 134, 0, 35), (4, 142, 0, 37), (4, 146, 0, 57), (4, 154, 0, 56), (4, 159, 0, 40), (4, 163, 0, 59), (4, 167, 0, 58), (5, 45, 0, 71), (5, 50, 0, 8), (5, 55, 0, 73), (5, 59, 0, 15), (5, 63, 0, 74), (5, 67, 0, 75), (5, 70, 0, 44), (5, 80, 0, 45), (5, 84, 0, 47), (5, 87, 0, 46), (5, 90, 0, 49), (5, 94, 0, 54), (5, 99, 0, 55), (5, 102, 0, 56), (5, 106, 3, 82), (5, 110, 0, 60), (6, 32, 0, 66), (6, 36, 3, 76), (6, 41, 3, 77), (6, 45, 0, 67), (6, 48, 0, 70), (6, 52, 0, 68), (6, 56, 0, 72), (7, 11, 3, 79), (7, 15, 3, 80), (10, 9, 1, 84), (10, 12, 1, 103), (10, 15, 0, 85), (10, 19, 0, 110), (10, 20, 0, 86), (10, 24, 0, 122), (10, 25, 0, 87), (10, 29, 0, 125), (10, 30, 0, 88), (10, 33, 0, 114), (10, 34, 0, 89), (10, 37, 0, 116), (10, 38, 0, 90), (10, 41, 0, 120), (10, 42, 0, 91), (10, 45, 0, 146), (10, 46, 0, 92), (10, 49, 0, 147), (10, 50, 0, 93), (10, 54, 0, 148), (10, 55, 0, 94), (10, 58, 0, 151), (10, 59, 0, 95), (10, 62, 0, 153), (10, 63, 0, 96), (10, 66, 0, 121), (10, 67, 0, 97), (10, 71, 0, 127), (10, 72, 0, 98), (10, 76, 0, 126), (10, 77, 0, 99), (10, 80, 0, 130), (9, 76, 0, 104), (9, 80, 0, 107), (9, 91, 3, 109), (9, 98, 0, 105), (9, 102, 3, 112), (9, 106, 0, 111), (9, 109, 0, 113), (9, 112, 0, 108), (9, 115, 3, 115), (9, 118, 0, 117), (9, 124, 0, 118), (9, 128, 0, 119), (9, 134, 0, 123), (9, 137, 0, 124), (9, 143, 0, 106), (9, 146, 0, 128), (9, 150, 0, 131), (9, 160, 0, 132), (9, 164, 0, 135), (9, 168, 0, 133), (9, 178, 0, 134), (9, 181, 0, 137), (9, 184, 0, 136), (9, 187, 0, 138), (9, 191, 0, 140), (9, 194, 0, 129), (9, 198, 0, 141), (9, 201, 0, 143), (9, 206, 0, 139), (9, 212, 0, 144), (9, 215, 0, 142), (9, 218, 0, 145), (9, 225, 0, 149), (9, 228, 0, 152), (9, 231, 0, 150), (12, 1, 1, 165), (11, 1, 1, 164), (11, 66, 3, 166), (11, 69, 0, 156), (11, 73, 3, 170), (11, 118, 3, 169), (11, 123, 0, 159), (11, 129, 0, 157), (11, 131, 0, 161), (14, 300, 3, 167), (15, 105, 3, 171)]
theorem am_ML_0 : am_okM (8, 9, 2, 62) := ⟨am_J_62, ⟨by decide +kernel, tm 90 (by decide +kernel), rfl, rfl⟩⟩
theorem am_ML_1 : am_okM (8, 22, 1, 7) := ⟨am_J_7, ⟨tm 117 (by decide +kernel), tm 118 (by decide +kernel), rfl, rfl⟩⟩
theorem am_ML_2 : am_okM (8, 27, 2, 41) := ⟨am_J_41, ⟨by decide +kernel, tm 143 (by decide +kernel), rfl, rfl⟩⟩
theorem am_ML_3 : am_okM (8, 34, 1, 27) := ⟨am_J_27, ⟨tm 180 (by decide +kernel), tm 181 (by decide +kernel), rfl, rfl⟩⟩
theorem am_ML_4 : am_okM (8, 43, 2, 0) := ⟨am_J_0, ⟨by decide +kernel, tm 241 (by decide +kernel), rfl, rfl⟩⟩
theorem am_ML_5 : am_okM (8, 50, 2, 16) := ⟨am_J_16, ⟨by decide +kernel, tm 257 (by decide +kernel), rfl, rfl⟩⟩
theorem am_ML_6 : am_okM (8, 61, 0, 64) := ⟨am_J_64, ⟨tm 308 (by decide +kernel), tm 309 (by decide +kernel), tm 310 (by decide +kernel), _, _, rfl⟩⟩
theorem am_ML_7 : am_okM (8, 65, 0, 63) := ⟨am_J_63, ⟨tm 313 (by decide +kernel), tm 314 (by decide +kernel), tm 315 (by decide +kernel), _, _, rfl⟩⟩
theorem am_ML_8 : am_okM (8, 69, 0, 100) := ⟨am_J_100, ⟨tm 321 (by decide +kernel), tm 323 (by decide +kernel), tm 0 (by decide +kernel), _, _, rfl⟩⟩
theorem am_ML_9 : am_okM (8, 73, 0, 69) := ⟨am_J_69, ⟨tm 325 (by decide +kernel), tm 326 (by decide +kernel), tm 327 (by decide +kernel), _, _, rfl⟩⟩
theorem am_ML_10 : am_okM (8, 76, 0, 42) := ⟨am_J_42, ⟨tm 352 (by decide +kernel), tm 353 (by decide +kernel), tm 354 (by decide +kernel), _, _, rfl⟩⟩
theorem am_ML_11 : am_okM (8, 80, 0, 65) := ⟨am_J_65, ⟨tm 404 (by decide +kernel), tm 405 (by decide +kernel), tm 406 (by decide +kernel), _, _, rfl⟩⟩
theorem am_ML_12 : am_okM (8, 83, 0, 43) := ⟨am_J_43, ⟨tm 412 (by decide +kernel), tm 413 (by decide +kernel), tm 414 (by decide +kernel), _, _, rfl⟩⟩
theorem am_ML_13 : am_okM (8, 87, 0, 73) := ⟨am_J_73, ⟨tm 424 (by decide +kernel), tm 365 (by decide +kernel), tm 366 (by decide +kernel), _, _, rfl⟩⟩
theorem am_ML_14 : am_okM (8, 91, 0, 10) := ⟨am_J_10, ⟨tm 425 (by decide +kernel), tm 426 (by decide +kernel), tm 427 (by decide +kernel), _, _, rfl⟩⟩
theorem am_ML_15 : am_okM (8, 95, 0, 48) := ⟨am_J_48, ⟨tm 445 (by decide +kernel), tm 446 (by decide +kernel), tm 447 (by decide +kernel), _, _, rfl⟩⟩
theorem am_ML_16 : am_okM (8, 99, 0, 12) := ⟨am_J_12, ⟨tm 466 (by decide +kernel), tm 467 (by decide +kernel), tm 468 (by decide +kernel), _, _, rfl⟩⟩
theorem am_ML_17 : am_okM (8, 103, 0, 11) := ⟨am_J_11, ⟨tm 470 (by decide +kernel), tm 471 (by decide +kernel), tm 472 (by decide +kernel), _, _, rfl⟩⟩
theorem am_ML_18 : am_okM (8, 106, 0, 101) := ⟨am_J_101, ⟨tm 478 (by decide +kernel), tm 480 (by decide +kernel), tm 3 (by decide +kernel), _, _, rfl⟩⟩
theorem am_ML_19 : am_okM (8, 110, 0, 13) := ⟨am_J_13, ⟨tm 482 (by decide +kernel), tm 381 (by decide +kernel), tm 382 (by decide +kernel), _, _, rfl⟩⟩
theorem am_ML_20 : am_okM (8, 114, 0, 102) := ⟨am_J_102, ⟨tm 483 (by decide +kernel), tm 485 (by decide +kernel), tm 4 (by decide +kernel), _, _, rfl⟩⟩
theorem am_ML_21 : am_okM (8, 118, 0, 28) := ⟨am_J_28, ⟨tm 492 (by decide +kernel), tm 493 (by decide +kernel), tm 494 (by decide +kernel), _, _, rfl⟩⟩
theorem am_ML_22 : am_okM (8, 121, 0, 34) := ⟨am_J_34, ⟨tm 609 (by decide +kernel), tm 610 (by decide +kernel), tm 611 (by decide +kernel), _, _, rfl⟩⟩
theorem am_ML_23 : am_okM (8, 124, 0, 36) := ⟨am_J_36, ⟨tm 633 (by decide +kernel), tm 634 (by decide +kernel), tm 635 (by decide +kernel), _, _, rfl⟩⟩
theorem am_ML_24 : am_okM (8, 128, 0, 1) := ⟨am_J_1, ⟨tm 654 (by decide +kernel), tm 655 (by decide +kernel), tm 656 (by decide +kernel), _, _, rfl⟩⟩
theorem am_ML_25 : am_okM (8, 129, 0, 45) := ⟨am_J_45, ⟨tm 658 (by decide +kernel), tm 450 (by decide +kernel), tm 451 (by decide +kernel), _, _, rfl⟩⟩
theorem am_ML_26 : am_okM (8, 133, 0, 39) := ⟨am_J_39, ⟨tm 659 (by decide +kernel), tm 660 (by decide +kernel), tm 661 (by decide +kernel), _, _, rfl⟩⟩
theorem am_ML_27 : am_okM (8, 137, 0, 38) := ⟨am_J_38, ⟨tm 685 (by decide +kernel), tm 686 (by decide +kernel), tm 687 (by decide +kernel), _, _, rfl⟩⟩
theorem am_ML_28 : am_okM (8, 141, 0, 3) := ⟨am_J_3, ⟨tm 689 (by decide +kernel), tm 690 (by decide +kernel), tm 691 (by decide +kernel), _, _, rfl⟩⟩
theorem am_ML_29 : am_okM (8, 145, 0, 2) := ⟨am_J_2, ⟨tm 693 (by decide +kernel), tm 694 (by decide +kernel), tm 695 (by decide +kernel), _, _, rfl⟩⟩
theorem am_ML_30 : am_okM (8, 148, 0, 5) := ⟨am_J_5, ⟨tm 701 (by decide +kernel), tm 702 (by decide +kernel), tm 703 (by decide +kernel), _, _, rfl⟩⟩
theorem am_ML_31 : am_okM (8, 152, 0, 6) := ⟨am_J_6, ⟨tm 713 (by decide +kernel), tm 714 (by decide +kernel), tm 715 (by decide +kernel), _, _, rfl⟩⟩
theorem am_ML_32 : am_okM (8, 155, 0, 17) := ⟨am_J_17, ⟨tm 721 (by decide +kernel), tm 722 (by decide +kernel), tm 723 (by decide +kernel), _, _, rfl⟩⟩
theorem am_ML_33 : am_okM (8, 156, 0, 20) := ⟨am_J_20, ⟨tm 725 (by decide +kernel), tm 726 (by decide +kernel), tm 727 (by decide +kernel), _, _, rfl⟩⟩
theorem am_ML_34 : am_okM (8, 160, 0, 18) := ⟨am_J_18, ⟨tm 760 (by decide +kernel), tm 761 (by decide +kernel), tm 762 (by decide +kernel), _, _, rfl⟩⟩
theorem am_ML_35 : am_okM (8, 161, 0, 19) := ⟨am_J_19, ⟨tm 768 (by decide +kernel), tm 769 (by decide +kernel), tm 770 (by decide +kernel), _, _, rfl⟩⟩
theorem am_ML_36 : am_okM (8, 162, 3, 80) := ⟨am_J_80, ⟨tm 487 (by decide +kernel), tm 385 (by decide +kernel)⟩⟩
theorem am_ML_37 : am_okM (8, 165, 3, 81) := ⟨am_J_81, ⟨tm 776 (by decide +kernel), tm 777 (by decide +kernel)⟩⟩
theorem am_ML_38 : am_okM (8, 169, 0, 49) := ⟨am_J_49, ⟨tm 783 (by decide +kernel), tm 784 (by decide +kernel), tm 785 (by decide +kernel), _, _, rfl⟩⟩
theorem am_ML_39 : am_okM (8, 173, 0, 50) := ⟨am_J_50, ⟨tm 787 (by decide +kernel), tm 788 (by decide +kernel), tm 789 (by decide +kernel), _, _, rfl⟩⟩
theorem am_ML_40 : am_okM (8, 177, 0, 51) := ⟨am_J_51, ⟨tm 792 (by decide +kernel), tm 793 (by decide +kernel), tm 794 (by decide +kernel), _, _, rfl⟩⟩
theorem am_ML_41 : am_okM (8, 180, 0, 52) := ⟨am_J_52, ⟨tm 800 (by decide +kernel), tm 801 (by decide +kernel), tm 802 (by decide +kernel), _, _, rfl⟩⟩
theorem am_ML_42 : am_okM (8, 183, 0, 53) := ⟨am_J_53, ⟨tm 808 (by decide +kernel), tm 809 (by decide +kernel), tm 810 (by decide +kernel), _, _, rfl⟩⟩
theorem am_ML_43 : am_okM (0, 25, 0, 4) := ⟨am_J_4, ⟨tm 705 (by decide +kernel), tm 707 (by decide +kernel), tm 17 (by decide +kernel), _, _, rfl⟩⟩
theorem am_ML_44 : am_okM (1, 26, 0, 9) := ⟨am_J_9, ⟨tm 376 (by decide +kernel), tm 377 (by decide +kernel), tm 378 (by decide +kernel), _, _, rfl⟩⟩
theorem am_ML_45 : am_okM (1, 30, 3, 168) := ⟨am_J_168, ⟨tm 429 (by decide +kernel), tm 430 (by decide +kernel)⟩⟩
theorem am_ML_46 : am_okM (1, 39, 3, 80) := ⟨am_J_80, ⟨tm 384 (by decide +kernel), tm 385 (by decide +kernel)⟩⟩
theorem am_ML_47 : am_okM (1, 45, 3, 14) := ⟨am_J_14, ⟨tm 387 (by decide +kernel), tm 388 (by decide +kernel)⟩⟩
theorem am_ML_48 : am_okM (1, 49, 3, 79) := ⟨am_J_79, ⟨tm 390 (by decide +kernel), tm 391 (by decide +kernel)⟩⟩
theorem am_ML_49 : am_okM (1, 53, 3, 78) := ⟨am_J_78, ⟨tm 393 (by decide +kernel), tm 394 (by decide +kernel)⟩⟩
theorem am_ML_50 : am_okM (1, 56, 0, 13) := ⟨am_J_13, ⟨tm 380 (by decide +kernel), tm 381 (by decide +kernel), tm 382 (by decide +kernel), _, _, rfl⟩⟩
theorem am_ML_51 : am_okM (2, 36, 3, 83) := ⟨am_J_83, ⟨tm 729 (by decide +kernel), tm 730 (by decide +kernel)⟩⟩
theorem am_ML_52 : am_okM (2, 43, 0, 45) := ⟨am_J_45, ⟨tm 732 (by decide +kernel), tm 450 (by decide +kernel), tm 451 (by decide +kernel), _, _, rfl⟩⟩
theorem am_ML_53 : am_okM (2, 47, 0, 47) := ⟨am_J_47, ⟨tm 733 (by decide +kernel), tm 454 (by decide +kernel), tm 455 (by decide +kernel), _, _, rfl⟩⟩
theorem am_ML_54 : am_okM (2, 51, 0, 46) := ⟨am_J_46, ⟨tm 734 (by decide +kernel), tm 459 (by decide +kernel), tm 460 (by decide +kernel), _, _, rfl⟩⟩
theorem am_ML_55 : am_okM (2, 54, 0, 61) := ⟨am_J_61, ⟨tm 735 (by decide +kernel), tm 736 (by decide +kernel), tm 737 (by decide +kernel), _, _, rfl⟩⟩
theorem am_ML_56 : am_okM (2, 58, 0, 21) := ⟨am_J_21, ⟨tm 739 (by decide +kernel), tm 741 (by decide +kernel), tm 18 (by decide +kernel), _, _, rfl⟩⟩
theorem am_ML_57 : am_okM (2, 62, 0, 22) := ⟨am_J_22, ⟨tm 743 (by decide +kernel), tm 745 (by decide +kernel), tm 19 (by decide +kernel), _, _, rfl⟩⟩
theorem am_ML_58 : am_okM (2, 66, 0, 25) := ⟨am_J_25, ⟨tm 747 (by decide +kernel), tm 749 (by decide +kernel), tm 20 (by decide +kernel), _, _, rfl⟩⟩
theorem am_ML_59 : am_okM (2, 69, 0, 23) := ⟨am_J_23, ⟨tm 752 (by decide +kernel), tm 754 (by decide +kernel), tm 21 (by decide +kernel), _, _, rfl⟩⟩
theorem am_ML_60 : am_okM (2, 72, 0, 24) := ⟨am_J_24, ⟨tm 756 (by decide +kernel), tm 758 (by decide +kernel), tm 22 (by decide +kernel), _, _, rfl⟩⟩
theorem am_ML_61 : am_okM (4, 11, 1, 155) := ⟨am_J_155, ⟨tm 186 (by decide +kernel), tm 187 (by decide +kernel), rfl, rfl⟩⟩
theorem am_ML_62 : am_okM (4, 34, 0, 163) := ⟨am_J_163, ⟨tm 496 (by decide +kernel), tm 497 (by decide +kernel), tm 498 (by decide +kernel), _, _, rfl⟩⟩
theorem am_ML_63 : am_okM (4, 47, 0, 29) := ⟨am_J_29, ⟨tm 500 (by decide +kernel), tm 502 (by decide +kernel), tm 5 (by decide +kernel), _, _, rfl⟩⟩
theorem am_ML_64 : am_okM (4, 50, 0, 63) := ⟨am_J_63, ⟨tm 505 (by decide +kernel), tm 314 (by decide +kernel), tm 315 (by decide +kernel), _, _, rfl⟩⟩
theorem am_ML_65 : am_okM (4, 54, 0, 66) := ⟨am_J_66, ⟨tm 504 (by decide +kernel), tm 330 (by decide +kernel), tm 331 (by decide +kernel), _, _, rfl⟩⟩
theorem am_ML_66 : am_okM (4, 58, 0, 30) := ⟨am_J_30, ⟨tm 506 (by decide +kernel), tm 508 (by decide +kernel), tm 6 (by decide +kernel), _, _, rfl⟩⟩
theorem am_ML_67 : am_okM (4, 62, 0, 31) := ⟨am_J_31, ⟨tm 510 (by decide +kernel), tm 512 (by decide +kernel), tm 7 (by decide +kernel), _, _, rfl⟩⟩
theorem am_ML_68 : am_okM (4, 66, 0, 32) := ⟨am_J_32, ⟨tm 595 (by decide +kernel), tm 597 (by decide +kernel), tm 11 (by decide +kernel), _, _, rfl⟩⟩
theorem am_ML_69 : am_okM (4, 83, 1, 26) := ⟨am_J_26, ⟨tm 518 (by decide +kernel), tm 519 (by decide +kernel), rfl, rfl⟩⟩
theorem am_ML_70 : am_okM (4, 86, 0, 162) := ⟨am_J_162, ⟨tm 543 (by decide +kernel), tm 544 (by decide +kernel), tm 545 (by decide +kernel), _, _, rfl⟩⟩
theorem am_ML_71 : am_okM (4, 90, 0, 33) := ⟨am_J_33, ⟨tm 601 (by decide +kernel), tm 603 (by decide +kernel), tm 12 (by decide +kernel), _, _, rfl⟩⟩
theorem am_ML_72 : am_okM (4, 97, 0, 67) := ⟨am_J_67, ⟨tm 599 (by decide +kernel), tm 337 (by decide +kernel), tm 338 (by decide +kernel), _, _, rfl⟩⟩
theorem am_ML_73 : am_okM (4, 100, 0, 68) := ⟨am_J_68, ⟨tm 600 (by decide +kernel), tm 345 (by decide +kernel), tm 346 (by decide +kernel), _, _, rfl⟩⟩
theorem am_ML_74 : am_okM (4, 104, 0, 158) := ⟨am_J_158, ⟨tm 613 (by decide +kernel), tm 614 (by decide +kernel), tm 615 (by decide +kernel), _, _, rfl⟩⟩
theorem am_ML_75 : am_okM (4, 107, 0, 160) := ⟨am_J_160, ⟨tm 617 (by decide +kernel), tm 618 (by decide +kernel), tm 619 (by decide +kernel), _, _, rfl⟩⟩
theorem am_ML_76 : am_okM (4, 125, 0, 15) := ⟨am_J_15, ⟨tm 632 (by decide +kernel), tm 373 (by decide +kernel), tm 374 (by decide +kernel), _, _, rfl⟩⟩
theorem am_ML_77 : am_okM (4, 134, 0, 35) := ⟨am_J_35, ⟨tm 637 (by decide +kernel), tm 639 (by decide +kernel), tm 13 (by decide +kernel), _, _, rfl⟩⟩
theorem am_ML_78 : am_okM (4, 142, 0, 37) := ⟨am_J_37, ⟨tm 641 (by decide +kernel), tm 643 (by decide +kernel), tm 14 (by decide +kernel), _, _, rfl⟩⟩
theorem am_ML_79 : am_okM (4, 146, 0, 57) := ⟨am_J_57, ⟨tm 645 (by decide +kernel), tm 646 (by decide +kernel), tm 647 (by decide +kernel), _, _, rfl⟩⟩
theorem am_ML_80 : am_okM (4, 154, 0, 56) := ⟨am_J_56, ⟨tm 684 (by decide +kernel), tm 650 (by decide +kernel), tm 651 (by decide +kernel), _, _, rfl⟩⟩
theorem am_ML_81 : am_okM (4, 159, 0, 40) := ⟨am_J_40, ⟨tm 663 (by decide +kernel), tm 665 (by decide +kernel), tm 15 (by decide +kernel), _, _, rfl⟩⟩
theorem am_ML_82 : am_okM (4, 163, 0, 59) := ⟨am_J_59, ⟨tm 667 (by decide +kernel), tm 668 (by decide +kernel), tm 669 (by decide +kernel), _, _, rfl⟩⟩
theorem am_ML_83 : am_okM (4, 167, 0, 58) := ⟨am_J_58, ⟨tm 675 (by decide +kernel), tm 676 (by decide +kernel), tm 677 (by decide +kernel), _, _, rfl⟩⟩
theorem am_ML_84 : am_okM (5, 45, 0, 71) := ⟨am_J_71, ⟨tm 356 (by decide +kernel), tm 357 (by decide +kernel), tm 358 (by decide +kernel), _, _, rfl⟩⟩
theorem am_ML_85 : am_okM (5, 50, 0, 8) := ⟨am_J_8, ⟨tm 360 (by decide +kernel), tm 361 (by decide +kernel), tm 362 (by decide +kernel), _, _, rfl⟩⟩
theorem am_ML_86 : am_okM (5, 55, 0, 73) := ⟨am_J_73, ⟨tm 364 (by decide +kernel), tm 365 (by decide +kernel), tm 366 (by decide +kernel), _, _, rfl⟩⟩
theorem am_ML_87 : am_okM (5, 59, 0, 15) := ⟨am_J_15, ⟨tm 372 (by decide +kernel), tm 373 (by decide +kernel), tm 374 (by decide +kernel), _, _, rfl⟩⟩
theorem am_ML_88 : am_okM (5, 63, 0, 74) := ⟨am_J_74, ⟨tm 396 (by decide +kernel), tm 397 (by decide +kernel), tm 398 (by decide +kernel), _, _, rfl⟩⟩
theorem am_ML_89 : am_okM (5, 67, 0, 75) := ⟨am_J_75, ⟨tm 400 (by decide +kernel), tm 401 (by decide +kernel), tm 402 (by decide +kernel), _, _, rfl⟩⟩
theorem am_ML_90 : am_okM (5, 70, 0, 44) := ⟨am_J_44, ⟨tm 416 (by decide +kernel), tm 417 (by decide +kernel), tm 418 (by decide +kernel), _, _, rfl⟩⟩
theorem am_ML_91 : am_okM (5, 80, 0, 45) := ⟨am_J_45, ⟨tm 449 (by decide +kernel), tm 450 (by decide +kernel), tm 451 (by decide +kernel), _, _, rfl⟩⟩
theorem am_ML_92 : am_okM (5, 84, 0, 47) := ⟨am_J_47, ⟨tm 453 (by decide +kernel), tm 454 (by decide +kernel), tm 455 (by decide +kernel), _, _, rfl⟩⟩
theorem am_ML_93 : am_okM (5, 87, 0, 46) := ⟨am_J_46, ⟨tm 458 (by decide +kernel), tm 459 (by decide +kernel), tm 460 (by decide +kernel), _, _, rfl⟩⟩
theorem am_ML_94 : am_okM (5, 90, 0, 49) := ⟨am_J_49, ⟨tm 791 (by decide +kernel), tm 784 (by decide +kernel), tm 785 (by decide +kernel), _, _, rfl⟩⟩
theorem am_ML_95 : am_okM (5, 94, 0, 54) := ⟨am_J_54, ⟨tm 812 (by decide +kernel), tm 814 (by decide +kernel), tm 23 (by decide +kernel), _, _, rfl⟩⟩
theorem am_ML_96 : am_okM (5, 99, 0, 55) := ⟨am_J_55, ⟨tm 816 (by decide +kernel), tm 818 (by decide +kernel), tm 24 (by decide +kernel), _, _, rfl⟩⟩
theorem am_ML_97 : am_okM (5, 102, 0, 56) := ⟨am_J_56, ⟨tm 649 (by decide +kernel), tm 650 (by decide +kernel), tm 651 (by decide +kernel), _, _, rfl⟩⟩
theorem am_ML_98 : am_okM (5, 106, 3, 82) := ⟨am_J_82, ⟨tm 679 (by decide +kernel), tm 680 (by decide +kernel)⟩⟩
theorem am_ML_99 : am_okM (5, 110, 0, 60) := ⟨am_J_60, ⟨tm 671 (by decide +kernel), tm 673 (by decide +kernel), tm 16 (by decide +kernel), _, _, rfl⟩⟩
theorem am_ML_100 : am_okM (6, 32, 0, 66) := ⟨am_J_66, ⟨tm 329 (by decide +kernel), tm 330 (by decide +kernel), tm 331 (by decide +kernel), _, _, rfl⟩⟩
theorem am_ML_101 : am_okM (6, 36, 3, 76) := ⟨am_J_76, ⟨tm 333 (by decide +kernel), tm 334 (by decide +kernel)⟩⟩
theorem am_ML_102 : am_okM (6, 41, 3, 77) := ⟨am_J_77, ⟨tm 348 (by decide +kernel), tm 349 (by decide +kernel)⟩⟩
theorem am_ML_103 : am_okM (6, 45, 0, 67) := ⟨am_J_67, ⟨tm 336 (by decide +kernel), tm 337 (by decide +kernel), tm 338 (by decide +kernel), _, _, rfl⟩⟩
theorem am_ML_104 : am_okM (6, 48, 0, 70) := ⟨am_J_70, ⟨tm 340 (by decide +kernel), tm 342 (by decide +kernel), tm 1 (by decide +kernel), _, _, rfl⟩⟩
theorem am_ML_105 : am_okM (6, 52, 0, 68) := ⟨am_J_68, ⟨tm 344 (by decide +kernel), tm 345 (by decide +kernel), tm 346 (by decide +kernel), _, _, rfl⟩⟩
theorem am_ML_106 : am_okM (6, 56, 0, 72) := ⟨am_J_72, ⟨tm 368 (by decide +kernel), tm 370 (by decide +kernel), tm 2 (by decide +kernel), _, _, rfl⟩⟩
theorem am_ML_107 : am_okM (7, 11, 3, 79) := ⟨am_J_79, ⟨tm 683 (by decide +kernel), tm 391 (by decide +kernel)⟩⟩
theorem am_ML_108 : am_okM (7, 15, 3, 80) := ⟨am_J_80, ⟨tm 682 (by decide +kernel), tm 385 (by decide +kernel)⟩⟩
theorem am_ML_109 : am_okM (10, 9, 1, 84) := ⟨am_J_84, ⟨tm 81 (by decide +kernel), tm 82 (by decide +kernel), rfl, rfl⟩⟩
theorem am_ML_110 : am_okM (10, 12, 1, 103) := ⟨am_J_103, ⟨tm 822 (by decide +kernel), tm 823 (by decide +kernel), rfl, rfl⟩⟩
theorem am_ML_111 : am_okM (10, 15, 0, 85) := ⟨am_J_85, ⟨tm 304 (by decide +kernel), tm 305 (by decide +kernel), tm 306 (by decide +kernel), _, _, rfl⟩⟩
theorem am_ML_112 : am_okM (10, 19, 0, 110) := ⟨am_J_110, ⟨tm 928 (by decide +kernel), tm 929 (by decide +kernel), tm 930 (by decide +kernel), _, _, rfl⟩⟩
theorem am_ML_113 : am_okM (10, 20, 0, 86) := ⟨am_J_86, ⟨tm 317 (by decide +kernel), tm 318 (by decide +kernel), tm 319 (by decide +kernel), _, _, rfl⟩⟩
theorem am_ML_114 : am_okM (10, 24, 0, 122) := ⟨am_J_122, ⟨tm 993 (by decide +kernel), tm 994 (by decide +kernel), tm 995 (by decide +kernel), _, _, rfl⟩⟩
theorem am_ML_115 : am_okM (10, 25, 0, 87) := ⟨am_J_87, ⟨tm 408 (by decide +kernel), tm 409 (by decide +kernel), tm 410 (by decide +kernel), _, _, rfl⟩⟩
theorem am_ML_116 : am_okM (10, 29, 0, 125) := ⟨am_J_125, ⟨tm 1001 (by decide +kernel), tm 1002 (by decide +kernel), tm 1003 (by decide +kernel), _, _, rfl⟩⟩
theorem am_ML_117 : am_okM (10, 30, 0, 88) := ⟨am_J_88, ⟨tm 420 (by decide +kernel), tm 421 (by decide +kernel), tm 422 (by decide +kernel), _, _, rfl⟩⟩
theorem am_ML_118 : am_okM (10, 33, 0, 114) := ⟨am_J_114, ⟨tm 932 (by decide +kernel), tm 933 (by decide +kernel), tm 934 (by decide +kernel), _, _, rfl⟩⟩
theorem am_ML_119 : am_okM (10, 34, 0, 89) := ⟨am_J_89, ⟨tm 462 (by decide +kernel), tm 463 (by decide +kernel), tm 464 (by decide +kernel), _, _, rfl⟩⟩
theorem am_ML_120 : am_okM (10, 37, 0, 116) := ⟨am_J_116, ⟨tm 966 (by decide +kernel), tm 967 (by decide +kernel), tm 968 (by decide +kernel), _, _, rfl⟩⟩
theorem am_ML_121 : am_okM (10, 38, 0, 90) := ⟨am_J_90, ⟨tm 474 (by decide +kernel), tm 475 (by decide +kernel), tm 476 (by decide +kernel), _, _, rfl⟩⟩
theorem am_ML_122 : am_okM (10, 41, 0, 120) := ⟨am_J_120, ⟨tm 973 (by decide +kernel), tm 974 (by decide +kernel), tm 975 (by decide +kernel), _, _, rfl⟩⟩
theorem am_ML_123 : am_okM (10, 42, 0, 91) := ⟨am_J_91, ⟨tm 488 (by decide +kernel), tm 489 (by decide +kernel), tm 490 (by decide +kernel), _, _, rfl⟩⟩
theorem am_ML_124 : am_okM (10, 45, 0, 146) := ⟨am_J_146, ⟨tm 1033 (by decide +kernel), tm 1034 (by decide +kernel), tm 1035 (by decide +kernel), _, _, rfl⟩⟩
theorem am_ML_125 : am_okM (10, 46, 0, 92) := ⟨am_J_92, ⟨tm 697 (by decide +kernel), tm 698 (by decide +kernel), tm 699 (by decide +kernel), _, _, rfl⟩⟩
theorem am_ML_126 : am_okM (10, 49, 0, 147) := ⟨am_J_147, ⟨tm 1098 (by decide +kernel), tm 1099 (by decide +kernel), tm 1100 (by decide +kernel), _, _, rfl⟩⟩
theorem am_ML_127 : am_okM (10, 50, 0, 93) := ⟨am_J_93, ⟨tm 709 (by decide +kernel), tm 710 (by decide +kernel), tm 711 (by decide +kernel), _, _, rfl⟩⟩
theorem am_ML_128 : am_okM (10, 54, 0, 148) := ⟨am_J_148, ⟨tm 1102 (by decide +kernel), tm 1103 (by decide +kernel), tm 1104 (by decide +kernel), _, _, rfl⟩⟩
theorem am_ML_129 : am_okM (10, 55, 0, 94) := ⟨am_J_94, ⟨tm 717 (by decide +kernel), tm 718 (by decide +kernel), tm 719 (by decide +kernel), _, _, rfl⟩⟩
theorem am_ML_130 : am_okM (10, 58, 0, 151) := ⟨am_J_151, ⟨tm 1106 (by decide +kernel), tm 1107 (by decide +kernel), tm 1108 (by decide +kernel), _, _, rfl⟩⟩
theorem am_ML_131 : am_okM (10, 59, 0, 95) := ⟨am_J_95, ⟨tm 764 (by decide +kernel), tm 765 (by decide +kernel), tm 766 (by decide +kernel), _, _, rfl⟩⟩
theorem am_ML_132 : am_okM (10, 62, 0, 153) := ⟨am_J_153, ⟨tm 1122 (by decide +kernel), tm 1123 (by decide +kernel), tm 1124 (by decide +kernel), _, _, rfl⟩⟩
theorem am_ML_133 : am_okM (10, 63, 0, 96) := ⟨am_J_96, ⟨tm 772 (by decide +kernel), tm 773 (by decide +kernel), tm 774 (by decide +kernel), _, _, rfl⟩⟩
theorem am_ML_134 : am_okM (10, 66, 0, 121) := ⟨am_J_121, ⟨tm 989 (by decide +kernel), tm 990 (by decide +kernel), tm 991 (by decide +kernel), _, _, rfl⟩⟩
theorem am_ML_135 : am_okM (10, 67, 0, 97) := ⟨am_J_97, ⟨tm 779 (by decide +kernel), tm 780 (by decide +kernel), tm 781 (by decide +kernel), _, _, rfl⟩⟩
theorem am_ML_136 : am_okM (10, 71, 0, 127) := ⟨am_J_127, ⟨tm 1013 (by decide +kernel), tm 1014 (by decide +kernel), tm 1015 (by decide +kernel), _, _, rfl⟩⟩
theorem am_ML_137 : am_okM (10, 72, 0, 98) := ⟨am_J_98, ⟨tm 796 (by decide +kernel), tm 797 (by decide +kernel), tm 798 (by decide +kernel), _, _, rfl⟩⟩
theorem am_ML_138 : am_okM (10, 76, 0, 126) := ⟨am_J_126, ⟨tm 1009 (by decide +kernel), tm 1010 (by decide +kernel), tm 1011 (by decide +kernel), _, _, rfl⟩⟩
theorem am_ML_139 : am_okM (10, 77, 0, 99) := ⟨am_J_99, ⟨tm 804 (by decide +kernel), tm 805 (by decide +kernel), tm 806 (by decide +kernel), _, _, rfl⟩⟩
theorem am_ML_140 : am_okM (10, 80, 0, 130) := ⟨am_J_130, ⟨tm 1017 (by decide +kernel), tm 1018 (by decide +kernel), tm 1019 (by decide +kernel), _, _, rfl⟩⟩
theorem am_ML_141 : am_okM (9, 76, 0, 104) := ⟨am_J_104, ⟨tm 958 (by decide +kernel), tm 960 (by decide +kernel), tm 29 (by decide +kernel), _, _, rfl⟩⟩
theorem am_ML_142 : am_okM (9, 80, 0, 107) := ⟨am_J_107, ⟨tm 946 (by decide +kernel), tm 948 (by decide +kernel), tm 26 (by decide +kernel), _, _, rfl⟩⟩
theorem am_ML_143 : am_okM (9, 91, 3, 109) := ⟨am_J_109, ⟨tm 943 (by decide +kernel), tm 944 (by decide +kernel)⟩⟩
theorem am_ML_144 : am_okM (9, 98, 0, 105) := ⟨am_J_105, ⟨tm 954 (by decide +kernel), tm 956 (by decide +kernel), tm 28 (by decide +kernel), _, _, rfl⟩⟩
theorem am_ML_145 : am_okM (9, 102, 3, 112) := ⟨am_J_112, ⟨tm 936 (by decide +kernel), tm 937 (by decide +kernel)⟩⟩
theorem am_ML_146 : am_okM (9, 106, 0, 111) := ⟨am_J_111, ⟨tm 939 (by decide +kernel), tm 941 (by decide +kernel), tm 25 (by decide +kernel), _, _, rfl⟩⟩
theorem am_ML_147 : am_okM (9, 109, 0, 113) := ⟨am_J_113, ⟨tm 950 (by decide +kernel), tm 952 (by decide +kernel), tm 27 (by decide +kernel), _, _, rfl⟩⟩
theorem am_ML_148 : am_okM (9, 112, 0, 108) := ⟨am_J_108, ⟨tm 962 (by decide +kernel), tm 964 (by decide +kernel), tm 30 (by decide +kernel), _, _, rfl⟩⟩
theorem am_ML_149 : am_okM (9, 115, 3, 115) := ⟨am_J_115, ⟨tm 970 (by decide +kernel), tm 971 (by decide +kernel)⟩⟩
theorem am_ML_150 : am_okM (9, 118, 0, 117) := ⟨am_J_117, ⟨tm 981 (by decide +kernel), tm 983 (by decide +kernel), tm 32 (by decide +kernel), _, _, rfl⟩⟩
theorem am_ML_151 : am_okM (9, 124, 0, 118) := ⟨am_J_118, ⟨tm 977 (by decide +kernel), tm 979 (by decide +kernel), tm 31 (by decide +kernel), _, _, rfl⟩⟩
theorem am_ML_152 : am_okM (9, 128, 0, 119) := ⟨am_J_119, ⟨tm 985 (by decide +kernel), tm 987 (by decide +kernel), tm 33 (by decide +kernel), _, _, rfl⟩⟩
theorem am_ML_153 : am_okM (9, 134, 0, 123) := ⟨am_J_123, ⟨tm 997 (by decide +kernel), tm 999 (by decide +kernel), tm 34 (by decide +kernel), _, _, rfl⟩⟩
theorem am_ML_154 : am_okM (9, 137, 0, 124) := ⟨am_J_124, ⟨tm 1005 (by decide +kernel), tm 1007 (by decide +kernel), tm 35 (by decide +kernel), _, _, rfl⟩⟩
theorem am_ML_155 : am_okM (9, 143, 0, 106) := ⟨am_J_106, ⟨tm 1029 (by decide +kernel), tm 1031 (by decide +kernel), tm 38 (by decide +kernel), _, _, rfl⟩⟩
theorem am_ML_156 : am_okM (9, 146, 0, 128) := ⟨am_J_128, ⟨tm 1025 (by decide +kernel), tm 1027 (by decide +kernel), tm 37 (by decide +kernel), _, _, rfl⟩⟩
theorem am_ML_157 : am_okM (9, 150, 0, 131) := ⟨am_J_131, ⟨tm 1021 (by decide +kernel), tm 1023 (by decide +kernel), tm 36 (by decide +kernel), _, _, rfl⟩⟩
theorem am_ML_158 : am_okM (9, 160, 0, 132) := ⟨am_J_132, ⟨tm 1045 (by decide +kernel), tm 1047 (by decide +kernel), tm 41 (by decide +kernel), _, _, rfl⟩⟩
theorem am_ML_159 : am_okM (9, 164, 0, 135) := ⟨am_J_135, ⟨tm 1053 (by decide +kernel), tm 1055 (by decide +kernel), tm 43 (by decide +kernel), _, _, rfl⟩⟩
theorem am_ML_160 : am_okM (9, 168, 0, 133) := ⟨am_J_133, ⟨tm 1057 (by decide +kernel), tm 1059 (by decide +kernel), tm 44 (by decide +kernel), _, _, rfl⟩⟩
theorem am_ML_161 : am_okM (9, 178, 0, 134) := ⟨am_J_134, ⟨tm 1041 (by decide +kernel), tm 1043 (by decide +kernel), tm 40 (by decide +kernel), _, _, rfl⟩⟩
theorem am_ML_162 : am_okM (9, 181, 0, 137) := ⟨am_J_137, ⟨tm 1065 (by decide +kernel), tm 1067 (by decide +kernel), tm 46 (by decide +kernel), _, _, rfl⟩⟩
theorem am_ML_163 : am_okM (9, 184, 0, 136) := ⟨am_J_136, ⟨tm 1049 (by decide +kernel), tm 1051 (by decide +kernel), tm 42 (by decide +kernel), _, _, rfl⟩⟩
theorem am_ML_164 : am_okM (9, 187, 0, 138) := ⟨am_J_138, ⟨tm 1061 (by decide +kernel), tm 1063 (by decide +kernel), tm 45 (by decide +kernel), _, _, rfl⟩⟩
theorem am_ML_165 : am_okM (9, 191, 0, 140) := ⟨am_J_140, ⟨tm 1085 (by decide +kernel), tm 1087 (by decide +kernel), tm 51 (by decide +kernel), _, _, rfl⟩⟩
theorem am_ML_166 : am_okM (9, 194, 0, 129) := ⟨am_J_129, ⟨tm 1089 (by decide +kernel), tm 1091 (by decide +kernel), tm 52 (by decide +kernel), _, _, rfl⟩⟩
theorem am_ML_167 : am_okM (9, 198, 0, 141) := ⟨am_J_141, ⟨tm 1081 (by decide +kernel), tm 1083 (by decide +kernel), tm 50 (by decide +kernel), _, _, rfl⟩⟩
theorem am_ML_168 : am_okM (9, 201, 0, 143) := ⟨am_J_143, ⟨tm 1073 (by decide +kernel), tm 1075 (by decide +kernel), tm 48 (by decide +kernel), _, _, rfl⟩⟩
theorem am_ML_169 : am_okM (9, 206, 0, 139) := ⟨am_J_139, ⟨tm 1037 (by decide +kernel), tm 1039 (by decide +kernel), tm 39 (by decide +kernel), _, _, rfl⟩⟩
theorem am_ML_170 : am_okM (9, 212, 0, 144) := ⟨am_J_144, ⟨tm 1069 (by decide +kernel), tm 1071 (by decide +kernel), tm 47 (by decide +kernel), _, _, rfl⟩⟩
theorem am_ML_171 : am_okM (9, 215, 0, 142) := ⟨am_J_142, ⟨tm 1077 (by decide +kernel), tm 1079 (by decide +kernel), tm 49 (by decide +kernel), _, _, rfl⟩⟩
theorem am_ML_172 : am_okM (9, 218, 0, 145) := ⟨am_J_145, ⟨tm 1093 (by decide +kernel), tm 1095 (by decide +kernel), tm 53 (by decide +kernel), _, _, rfl⟩⟩
theorem am_ML_173 : am_okM (9, 225, 0, 149) := ⟨am_J_149, ⟨tm 1110 (by decide +kernel), tm 1112 (by decide +kernel), tm 54 (by decide +kernel), _, _, rfl⟩⟩
theorem am_ML_174 : am_okM (9, 228, 0, 152) := ⟨am_J_152, ⟨tm 1114 (by decide +kernel), tm 1116 (by decide +kernel), tm 55 (by decide +kernel), _, _, rfl⟩⟩
theorem am_ML_175 : am_okM (9, 231, 0, 150) := ⟨am_J_150, ⟨tm 1118 (by decide +kernel), tm 1120 (by decide +kernel), tm 56 (by decide +kernel), _, _, rfl⟩⟩
theorem am_ML_176 : am_okM (12, 1, 1, 165) := ⟨am_J_165, ⟨tm 192 (by decide +kernel), tm 193 (by decide +kernel), rfl, rfl⟩⟩
theorem am_ML_177 : am_okM (11, 1, 1, 164) := ⟨am_J_164, ⟨tm 189 (by decide +kernel), tm 190 (by decide +kernel), rfl, rfl⟩⟩
theorem am_ML_178 : am_okM (11, 66, 3, 166) := ⟨am_J_166, ⟨tm 569 (by decide +kernel), tm 570 (by decide +kernel)⟩⟩
theorem am_ML_179 : am_okM (11, 69, 0, 156) := ⟨am_J_156, ⟨tm 555 (by decide +kernel), tm 557 (by decide +kernel), tm 10 (by decide +kernel), _, _, rfl⟩⟩
theorem am_ML_180 : am_okM (11, 73, 3, 170) := ⟨am_J_170, ⟨tm 559 (by decide +kernel), tm 560 (by decide +kernel)⟩⟩
theorem am_ML_181 : am_okM (11, 118, 3, 169) := ⟨am_J_169, ⟨tm 621 (by decide +kernel), tm 622 (by decide +kernel)⟩⟩
theorem am_ML_182 : am_okM (11, 123, 0, 159) := ⟨am_J_159, ⟨tm 627 (by decide +kernel), tm 628 (by decide +kernel), tm 629 (by decide +kernel), _, _, rfl⟩⟩
theorem am_ML_183 : am_okM (11, 129, 0, 157) := ⟨am_J_157, ⟨tm 551 (by decide +kernel), tm 553 (by decide +kernel), tm 9 (by decide +kernel), _, _, rfl⟩⟩
theorem am_ML_184 : am_okM (11, 131, 0, 161) := ⟨am_J_161, ⟨tm 547 (by decide +kernel), tm 549 (by decide +kernel), tm 8 (by decide +kernel), _, _, rfl⟩⟩
theorem am_ML_185 : am_okM (14, 300, 3, 167) := ⟨am_J_167, ⟨tm 587 (by decide +kernel), tm 588 (by decide +kernel)⟩⟩
theorem am_ML_186 : am_okM (15, 105, 3, 171) := ⟨am_J_171, ⟨tm 624 (by decide +kernel), tm 625 (by decide +kernel)⟩⟩
set_option maxRecDepth 20000 in
theorem am_ML_ok : ∀ q ∈ am_ML, am_okM q := List.forall_mem_cons.mpr ⟨am_ML_0, List.forall_mem_cons.mpr ⟨am_ML_1, List.forall_mem_cons.mpr ⟨am_ML_2, List.forall_mem_cons.mpr ⟨am_ML_3, List.forall_mem_cons.mpr ⟨am_ML_4, List.forall_mem_cons.mpr ⟨am_ML_5, List.forall_mem_cons.mpr ⟨am_ML_6, List.forall_mem_cons.mpr ⟨am_ML_7, List.forall_mem_cons.mpr ⟨am_ML_8, List.forall_mem_cons.mpr ⟨am_ML_9, List.forall_mem_cons.mpr ⟨am_ML_10, List.forall_mem_cons.mpr ⟨am_ML_11, List.forall_mem_cons.mpr ⟨am_ML_12, List.forall_mem_cons.mpr ⟨am_ML_13, List.forall_mem_cons.mpr ⟨am_ML_14, List.forall_mem_cons.mpr ⟨am_ML_15, List.forall_mem_cons.mpr ⟨am_ML_16, List.forall_mem_cons.mpr ⟨am_ML_17, List.forall_mem_cons.mpr ⟨am_ML_18, List.forall_mem_cons.mpr ⟨am_ML_19, List.forall_mem_cons.mpr ⟨am_ML_20, List.forall_mem_cons.mpr ⟨am_ML_21, List.forall_mem_cons.mpr ⟨am_ML_22, List.forall_mem_cons.mpr ⟨am_ML_23, List.forall_mem_cons.mpr ⟨am_ML_24, List.forall_mem_cons.mpr ⟨am_ML_25, List.forall_mem_cons.mpr ⟨am_ML_26, List.forall_mem_cons.mpr ⟨am_ML_27, List.forall_mem_cons.mpr ⟨am_ML_28, List.forall_mem_cons.mpr ⟨am_ML_29, List.forall_mem_cons.mpr ⟨am_ML_30, List.forall_mem_cons.mpr ⟨am_ML_31, List.forall_mem_cons.mpr ⟨am_ML_32, List.forall_mem_cons.mpr ⟨am_ML_33, List.forall_mem_cons.mpr ⟨am_ML_34, List.forall_mem_cons.mpr ⟨am_ML_35, List.forall_mem_cons.mpr ⟨am_ML_36, List.forall_mem_cons.mpr ⟨am_ML_37, List.forall_mem_cons.mpr ⟨am_ML_38, List.forall_mem_cons.mpr ⟨am_ML_39, List.forall_mem_cons.mpr ⟨am_ML_40, List.forall_mem_cons.mpr ⟨am_ML_41, List.forall_mem_cons.mpr ⟨am_ML_42, List.forall_mem_cons.mpr ⟨am_ML_43, List.forall_mem_cons.mpr ⟨am_ML_44, List.forall_mem_cons.mpr ⟨am_ML_45, List.forall_mem_cons.mpr ⟨am_ML_46, List.forall_mem_cons.mpr ⟨am_ML_47, List.forall_mem_cons.mpr ⟨am_ML_48, List.forall_mem_cons.mpr ⟨am_ML_49, List.forall_mem_cons.mpr ⟨am_ML_50, List.forall_mem_cons.mpr ⟨am_ML_51, List.forall_mem_cons.mpr ⟨am_ML_52, List.forall_mem_cons.mpr ⟨am_ML_53, List.forall_mem_cons.mpr ⟨am_ML_54, List.forall_mem_cons.mpr ⟨am_ML_55, List.forall_mem_cons.mpr ⟨am_ML_56, List.forall_mem_cons.mpr ⟨am_ML_57, List.forall_mem_cons.mpr ⟨am_ML_58, List.forall_mem_cons.mpr ⟨am_ML_59, List.forall_mem_cons.mpr ⟨am_ML_60, List.forall_mem_cons.mpr ⟨am_ML_61, List.forall_mem_cons.mpr ⟨am_ML_62, List.forall_mem_cons.mpr ⟨am_ML_63, List.forall_mem_cons.mpr ⟨am_ML_64, List.forall_mem_cons.mpr ⟨am_ML_65, List.forall_mem_cons.mpr ⟨am_ML_66, List.forall_mem_cons.mpr ⟨am_ML_67, List.forall_mem_cons.mpr ⟨am_ML_68, List.forall_mem_cons.mpr ⟨am_ML_69, List.forall_mem_cons.mpr ⟨am_ML_70, List.forall_mem_cons.mpr ⟨am_ML_71, List.forall_mem_cons.mpr ⟨am_ML_72, List.forall_mem_cons.mpr ⟨am_ML_73, List.forall_mem_cons.mpr ⟨am_ML_74, List.forall_mem_cons.mpr ⟨am_ML_75, List.forall_mem_cons.mpr ⟨am_ML_76, List.forall_mem_cons.mpr ⟨am_ML_77, List.forall_mem_cons.mpr ⟨am_ML_78, List.forall_mem_cons.mpr ⟨am_ML_79, List.forall_mem_cons.mpr ⟨am_ML_80, List.forall_mem_cons.mpr ⟨am_ML_81, List.forall_mem_cons.mpr ⟨am_ML_82, List.forall_mem_cons.mpr ⟨am_ML_83, List.forall_mem_cons.mpr ⟨am_ML_84, List.forall_mem_cons.mpr ⟨am_ML_85, List.forall_mem_cons.mpr ⟨am_ML_86, List.forall_mem_cons.mpr ⟨am_ML_87, List.forall_mem_cons.mpr ⟨am_ML_88, List.forall_mem_cons.mpr ⟨am_ML_89, List.forall_mem_cons.mpr ⟨am_ML_90, List.forall_mem_cons.mpr ⟨am_ML_91, List.forall_mem_cons.mpr ⟨am_ML_92, List.forall_mem_cons.mpr ⟨am_ML_93, List.forall_mem_cons.mpr ⟨am_ML_94, List.forall_mem_cons.mpr ⟨am_ML_95, List.forall_mem_cons.mpr ⟨am_ML_96, List.forall_mem_cons.mpr ⟨am_ML_97, List.forall_mem_cons.mpr ⟨am_ML_98, List.forall_mem_cons.mpr ⟨am_ML_99, List.forall_mem_cons.mpr ⟨am_ML_100, List.forall_mem_cons.mpr ⟨am_ML_101, List.forall_mem_cons.mpr ⟨am_ML_102, List.forall_mem_cons.mpr ⟨am_ML_103, List.forall_mem_cons.mpr ⟨am_ML_104, List.forall_mem_cons.mpr ⟨am_ML_105, List.forall_mem_cons.mpr ⟨am_ML_106, List.forall_mem_cons.mpr ⟨am_ML_107, List.forall_mem_cons.mpr ⟨am_ML_108, List.forall_mem_cons.mpr ⟨am_ML_109, List.forall_mem_cons.mpr ⟨am_ML_110, List.forall_mem_cons.mpr ⟨am_ML_111, List.forall_mem_cons.mpr ⟨am_ML_112, List.forall_mem_cons.mpr ⟨am_ML_113, List.forall_mem_cons.mpr ⟨am_ML_114, List.forall_mem_cons.mpr ⟨am_ML_115, List.forall_mem_cons.mpr ⟨am_ML_116, List.forall_mem_cons.mpr ⟨am_ML_117, List.forall_mem_cons.mpr ⟨am_ML_118, List.forall_mem_cons.mpr ⟨am_ML_119, List.forall_mem_cons.mpr ⟨am_ML_120, List.forall_mem_cons.mpr ⟨am_ML_121, List.forall_mem_cons.mpr ⟨am_ML_122, List.forall_mem_cons.mpr ⟨am_ML_123, List.forall_mem_cons.mpr ⟨am_ML_124, List.forall_mem_cons.mpr ⟨am_ML_125, List.forall_mem_cons.mpr ⟨am_ML_126, List.forall_mem_cons.mpr ⟨am_ML_127, List.forall_mem_cons.mpr ⟨am_ML_128, List.forall_mem_cons.mpr ⟨am_ML_129, List.forall_mem_cons.mpr ⟨am_ML_130, List.forall_mem_cons.mpr ⟨am_ML_131, List.forall_mem_cons.mpr ⟨am_ML_132, List.forall_mem_cons.mpr ⟨am_ML_133, List.forall_mem_cons.mpr ⟨am_ML_134, List.forall_mem_cons.mpr ⟨am_ML_135, List.forall_mem_cons.mpr ⟨am_ML_136, List.forall_mem_cons.mpr ⟨am_ML_137, List.forall_mem_cons.mpr ⟨am_ML_138, List.forall_mem_cons.mpr ⟨am_ML_139, List.forall_mem_cons.mpr ⟨am_ML_140, List.forall_mem_cons.mpr ⟨am_ML_141, List.forall_mem_cons.mpr ⟨am_ML_142, List.forall_mem_cons.mpr ⟨am_ML_143, List.forall_mem_cons.mpr ⟨am_ML_144, List.forall_mem_cons.mpr ⟨am_ML_145, List.forall_mem_cons.mpr ⟨am_ML_146, List.forall_mem_cons.mpr ⟨am_ML_147, List.forall_mem_cons.mpr ⟨am_ML_148, List.forall_mem_cons.mpr ⟨am_ML_149, List.forall_mem_cons.mpr ⟨am_ML_150, List.forall_mem_cons.mpr ⟨am_ML_151, List.forall_mem_cons.mpr ⟨am_ML_152, List.forall_mem_cons.mpr ⟨am_ML_153, List.forall_mem_cons.mpr ⟨am_ML_154, List.forall_mem_cons.mpr ⟨am_ML_155, List.forall_mem_cons.mpr ⟨am_ML_156, List.forall_mem_cons.mpr ⟨am_ML_157, List.forall_mem_cons.mpr ⟨am_ML_158, List.forall_mem_cons.mpr ⟨am_ML_159, List.forall_mem_cons.mpr ⟨am_ML_160, List.forall_mem_cons.mpr ⟨am_ML_161, List.forall_mem_cons.mpr ⟨am_ML_162, List.forall_mem_cons.mpr ⟨am_ML_163, List.forall_mem_cons.mpr ⟨am_ML_164, List.forall_mem_cons.mpr ⟨am_ML_165, List.forall_mem_cons.mpr ⟨am_ML_166, List.forall_mem_cons.mpr ⟨am_ML_167, List.forall_mem_cons.mpr ⟨am_ML_168, List.forall_mem_cons.mpr ⟨am_ML_169, List.forall_mem_cons.mpr ⟨am_ML_170, List.forall_mem_cons.mpr ⟨am_ML_171, List.forall_mem_cons.mpr ⟨am_ML_172, List.forall_mem_cons.mpr ⟨am_ML_173, List.forall_mem_cons.mpr ⟨am_ML_174, List.forall_mem_cons.mpr ⟨am_ML_175, List.forall_mem_cons.mpr ⟨am_ML_176, List.forall_mem_cons.mpr ⟨am_ML_177, List.forall_mem_cons.mpr ⟨am_ML_178, List.forall_mem_cons.mpr ⟨am_ML_179, List.forall_mem_cons.mpr ⟨am_ML_180, List.forall_mem_cons.mpr ⟨am_ML_181, List.forall_mem_cons.mpr ⟨am_ML_182, List.forall_mem_cons.mpr ⟨am_ML_183, List.forall_mem_cons.mpr ⟨am_ML_184, List.forall_mem_cons.mpr ⟨am_ML_185, List.forall_mem_cons.mpr ⟨am_ML_186, fun _ h => absurd h List.not_mem_nil⟩⟩⟩⟩⟩⟩⟩⟩⟩⟩⟩⟩⟩⟩⟩⟩⟩⟩⟩⟩⟩⟩⟩⟩⟩⟩⟩⟩⟩⟩⟩⟩⟩⟩⟩⟩⟩⟩⟩⟩⟩⟩⟩⟩⟩⟩⟩⟩⟩⟩⟩⟩⟩⟩⟩⟩⟩⟩⟩⟩⟩⟩⟩⟩⟩⟩⟩⟩⟩⟩⟩⟩⟩⟩⟩⟩⟩⟩⟩⟩⟩⟩⟩⟩⟩⟩⟩⟩⟩⟩⟩⟩⟩⟩⟩⟩⟩⟩⟩⟩⟩⟩⟩⟩⟩⟩⟩⟩⟩⟩⟩⟩⟩⟩⟩⟩⟩⟩⟩⟩⟩⟩⟩⟩⟩⟩⟩⟩⟩⟩⟩⟩⟩⟩⟩⟩⟩⟩⟩⟩⟩⟩⟩⟩⟩⟩⟩⟩⟩⟩⟩⟩⟩⟩⟩⟩⟩⟩⟩⟩⟩⟩⟩⟩⟩⟩⟩⟩⟩⟩⟩⟩⟩⟩⟩⟩⟩⟩⟩⟩⟩⟩⟩⟩⟩⟩⟩
def am_OI_p (q : Nat × Nat) : Prop := Cond.methodLink (am_on q.1) q.2 Lib.objectInit ∈ am_T
def am_OI : List (Nat × Nat) := [(8, 1), (0, 3), (1, 1), (2, 3), (3, 1), (4, 3), (5, 3), (6, 1), (9, 1), (13, 1)]
theorem am_OI_0 : am_OI_p (8, 1) := tm 84 (by decide +kernel)
theorem am_OI_1 : am_OI_p (0, 3) := tm 243 (by decide +kernel)
theorem am_OI_2 : am_OI_p (1, 1) := tm 120 (by decide +kernel)
theorem am_OI_3 : am_OI_p (2, 3) := tm 259 (by decide +kernel)
theorem am_OI_4 : am_OI_p (3, 1) := tm 521 (by decide +kernel)
theorem am_OI_5 : am_OI_p (4, 3) := tm 183 (by decide +kernel)
theorem am_OI_6 : am_OI_p (5, 3) := tm 145 (by decide +kernel)
theorem am_OI_7 : am_OI_p (6, 1) := tm 92 (by decide +kernel)
theorem am_OI_8 : am_OI_p (9, 1) := tm 825 (by decide +kernel)
theorem am_OI_9 : am_OI_p (13, 1) := tm 195 (by decide +kernel)
set_option maxRecDepth 20000 in
theorem am_OI_ok : ∀ q ∈ am_OI, am_OI_p q := List.forall_mem_cons.mpr ⟨am_OI_0, List.forall_mem_cons.mpr ⟨am_OI_1, List.forall_mem_cons.mpr ⟨am_OI_2, List.forall_mem_cons.mpr ⟨am_OI_3, List.forall_mem_cons.mpr ⟨am_OI_4, List.forall_mem_cons.mpr ⟨am_OI_5, List.forall_mem_cons.mpr ⟨am_OI_6, List.forall_mem_cons.mpr ⟨am_OI_7, List.forall_mem_cons.mpr ⟨am_OI_8, List.forall_mem_cons.mpr ⟨am_OI_9, fun _ h => absurd h List.not_mem_nil⟩⟩⟩⟩⟩⟩⟩⟩⟩⟩
def am_GC_p (q : Nat × Nat) : Prop := Cond.methodLink (am_on q.1) q.2 ⟨"java/lang/Object", "getClass", "()Ljava/lang/Class;"⟩ ∈ am_T
def am_GC : List (Nat × Nat) := [(14, 86)]
theorem am_GC_0 : am_GC_p (14, 86) := tm 572 (by decide +kernel)
set_option maxRecDepth 20000 in
theorem am_GC_ok : ∀ q ∈ am_GC, am_GC_p q := List.forall_mem_cons.mpr ⟨am_GC_0, fun _ h => absurd h List.not_mem_nil⟩
def am_CP_p (q : Nat × Nat) : Prop := Cond.methodLink (am_on q.1) q.2 arraycopyName ∈ am_T
def am_CP : List (Nat × Nat) := [(14, 150)]
theorem am_CP_0 : am_CP_p (14, 150) := tm 442 (by decide +kernel)
set_option maxRecDepth 20000 in
theorem am_CP_ok : ∀ q ∈ am_CP, am_CP_p q := List.forall_mem_cons.mpr ⟨am_CP_0, fun _ h => absurd h List.not_mem_nil⟩
def am_MX_p (q : Nat × Nat) : Prop := Cond.methodLink (am_on q.1) q.2 Lib.Math.max.name ∈ am_T
def am_MX : List (Nat × Nat) := [(11, 79), (16, 194)]
theorem am_MX_0 : am_MX_p (11, 79) := tm 593 (by decide +kernel)
theorem am_MX_1 : am_MX_p (16, 194) := tm 562 (by decide +kernel)
set_option maxRecDepth 20000 in
theorem am_MX_ok : ∀ q ∈ am_MX, am_MX_p q := List.forall_mem_cons.mpr ⟨am_MX_0, List.forall_mem_cons.mpr ⟨am_MX_1, fun _ h => absurd h List.not_mem_nil⟩⟩
def am_MN_p (q : Nat × Nat) : Prop := Cond.methodLink (am_on q.1) q.2 Lib.Math.min.name ∈ am_T
def am_MN : List (Nat × Nat) := [(2, 76), (4, 116), (5, 74), (14, 304)]
theorem am_MN_0 : am_MN_p (2, 76) := tm 751 (by decide +kernel)
theorem am_MN_1 : am_MN_p (4, 116) := tm 631 (by decide +kernel)
theorem am_MN_2 : am_MN_p (5, 74) := tm 457 (by decide +kernel)
theorem am_MN_3 : am_MN_p (14, 304) := tm 439 (by decide +kernel)
set_option maxRecDepth 20000 in
theorem am_MN_ok : ∀ q ∈ am_MN, am_MN_p q := List.forall_mem_cons.mpr ⟨am_MN_0, List.forall_mem_cons.mpr ⟨am_MN_1, List.forall_mem_cons.mpr ⟨am_MN_2, List.forall_mem_cons.mpr ⟨am_MN_3, fun _ h => absurd h List.not_mem_nil⟩⟩⟩⟩
theorem am_w_obj : Cond.instanceMethod Lib.objectInit ∈ am_T ∧ Cond.code Lib.objectInit ⟨#[0xb1]⟩ 1 none ∈ am_T := ⟨tm 85 (by decide +kernel), tm 86 (by decide +kernel)⟩
theorem am_w_gc : Cond.declares ⟨"java/lang/Object", "getClass", "()Ljava/lang/Class;"⟩ ∈ lw_tbl ∧ Cond.selects "[Ljava/lang/Object;" ⟨"java/lang/Object", "getClass", "()Ljava/lang/Class;"⟩ ⟨"java/lang/Object", "getClass", "()Ljava/lang/Class;"⟩ ∈ am_T ∧ Cond.instanceMethod ⟨"java/lang/Object", "getClass", "()Ljava/lang/Class;"⟩ ∈ am_T ∧ Cond.native ⟨"java/lang/Object", "getClass", "()Ljava/lang/Class;"⟩ ∈ am_T := ⟨tn 1140 (by decide +kernel), tm 1139 (by decide +kernel), tm 573 (by decide +kernel), tm 586 (by decide +kernel)⟩
theorem am_w_cp : Cond.native arraycopyName ∈ am_T ∧ Cond.static arraycopyName ∈ am_T ∧ Cond.initialized "java/lang/System" ∈ am_T := ⟨tm 444 (by decide +kernel), tm 443 (by decide +kernel), tm 72 (by decide +kernel)⟩
theorem am_w_max : Cond.static Lib.Math.max.name ∈ am_T ∧ Cond.initialized "java/lang/Math" ∈ am_T ∧ Cond.code Lib.Math.max.name Lib.Math.max.code 2 (some .int) ∈ am_T := ⟨tm 563 (by decide +kernel), tm 71 (by decide +kernel), tm 564 (by decide +kernel)⟩
theorem am_w_min : Cond.static Lib.Math.min.name ∈ am_T ∧ Cond.initialized "java/lang/Math" ∈ am_T ∧ Cond.code Lib.Math.min.name Lib.Math.min.code 2 (some .int) ∈ am_T := ⟨tm 440 (by decide +kernel), tm 71 (by decide +kernel), tm 441 (by decide +kernel)⟩
theorem am_ls_DEFA : Cond.laysStatic "java/util/ArrayList" "DEFAULTCAPACITY_EMPTY_ELEMENTDATA" "[Ljava/lang/Object;" ∈ lw_tbl := tn 197 (by decide +kernel)
theorem am_ls_WORD : Cond.laysStatic "TextIndices$Kind" "WORD" "LTextIndices$Kind;" ∈ lw_tbl := tn 608 (by decide +kernel)
theorem am_ls_BEGI : Cond.laysStatic "TextIndices$Kind" "BEGINNING" "LTextIndices$Kind;" ∈ lw_tbl := tn 606 (by decide +kernel)
theorem am_ls_PHRA : Cond.laysStatic "TextIndices$Kind" "PHRASE" "LTextIndices$Kind;" ∈ lw_tbl := tn 517 (by decide +kernel)
theorem am_ini_Kind : Cond.initialized "TextIndices$Kind" ∈ am_T := tm 75 (by decide +kernel)
end
section
/-! ===== each entry of the code is the machine's instruction, and its links are the tables' ===== -/
def am_lni (i : Jvm.ClassFile.Instr) : Nat := match i with
  | .aload _ => 2
  | .iload _ => 2
  | .lload _ => 2
  | .astore _ => 2
  | .istore _ => 2
  | .lstore _ => 2
  | .bipush _ => 2
  | .ldc _ => 2
  | .newarray _ => 2
  | .sipush _ => 3
  | .ldc2_w _ => 3
  | .getstatic _ => 3
  | .iinc _ _ => 3
  | .goto _ => 3
  | .if_icmp _ _ => 3
  | .ifCond _ _ => 3
  | .if_acmp _ _ => 3
  | .ifnull _ => 3
  | .ifnonnull _ => 3
  | .anewarray _ => 3
  | .new _ => 3
  | .getfield _ => 3
  | .putfield _ => 3
  | .checkcast _ => 3
  | .invokevirtual _ => 3
  | .invokespecial _ => 3
  | .invokestatic _ => 3
  | _ => 1
def am_fin (ci b : Nat) : Bool := match am_cl[ci]? with
  | some r => (r.2.1 b).2.2.2
  | none => true
def am_dcl (ci b : Nat) : String := match am_cl[ci]? with
  | some r => (r.2.1 b).1
  | none => ""
def am_isref (t : Option FieldType) : Bool := match t with
  | some (.object _) => true
  | some (.array _) => true
  | _ => false
def am_tag (t : Jvm.ClassFile.ArrayType) : Nat := match t with
  | .int => 0
  | .byte => 1
  | .boolean => 2
  | .long => 3
  | _ => 99
def am_call_ok (m a c : Nat) : Bool := decide (am_nc a = c) && decide (am_D a + 1 ≤ am_D m) && decide (8 + (am_ml a + 11) + am_Lo a ≤ am_Lo m)
def am_prim_ok (m : Nat) : Bool := decide (1 ≤ am_D m) && decide (20 ≤ am_Lo m)
def am_okb1 (m pc : Nat) (i : Jvm.ClassFile.Instr) (a b c : Nat) (k : Int32) (l : Int64) : Bool := match i with
  | .aload n => decide (n = a)
  | .iload n => decide (n = a)
  | .lload n => decide (n = a)
  | .aload_n n => decide (n.val = a)
  | .iload_n n => decide (n.val = a)
  | .lload_n n => decide (n.val = a)
  | .astore n => decide (n = a) && decide (a < am_ml m)
  | .istore n => decide (n = a) && decide (a < am_ml m)
  | .lstore n => decide (n = a) && decide (a + 1 < am_ml m)
  | .astore_n n => decide (n.val = a) && decide (a < am_ml m)
  | .istore_n n => decide (n.val = a) && decide (a < am_ml m)
  | .lstore_n n => decide (n.val = a) && decide (a + 1 < am_ml m)
  | .iinc n d => decide (n = a) && decide (Int32.ofInt d = k) && decide (a < am_ml m)
  | .iconst n => decide (Int32.ofInt n = k)
  | .bipush n => decide ((Int8.ofInt n).toInt32 = k)
  | .sipush n => decide ((Int16.ofInt n).toInt32 = k)
  | .lconst n => decide (Int64.ofNat n.val = l)
  | .ldc2_w x => decide ((am_ow m, x, l) ∈ am_KL)
  | .ldc x => (match b with
    | 0 => decide ((am_ow m, x, k) ∈ am_KI)
    | _ => decide (a = 4) && decide ((am_ow m, x) ∈ am_MI))
  | .getstatic x => decide ((am_ow m, x, a) ∈ am_SL)
  | .goto d => decide ((pc : Int) + d = (a : Int))
  | .ifnull d => decide ((pc : Int) + d = (a : Int))
  | .ifnonnull d => decide ((pc : Int) + d = (a : Int))
  | .if_icmp _ d => decide ((pc : Int) + d = (a : Int))
  | .ifCond _ d => decide ((pc : Int) + d = (a : Int))
  | .if_acmp _ d => decide ((pc : Int) + d = (a : Int))
  | .newarray t => decide (am_tag t = a) && decide (a < 4)
  | .anewarray x => decide ((am_ow m, x, a) ∈ am_QL)
  | .new x => decide ((am_ow m, x, a) ∈ am_NL)
  | .checkcast x => decide (a = 99) || decide ((am_ow m, x, a) ∈ am_NL)
  | .getfield x => decide ((am_ow m, x, a, b) ∈ am_FL)
  | .putfield x => decide ((am_ow m, x, a, b) ∈ am_FL) && (!(am_fin a b) || (decide ((am_y m).name = "<init>") && decide (am_dcl a b = am_on (am_ow m))))
  | .invokevirtual x => (match b with
    | 0 => decide ((am_ow m, x, 0, a) ∈ am_ML) && am_call_ok m a c
    | 5 => decide ((am_ow m, x) ∈ am_GC) && decide (1 ≤ am_D m) && decide (22 ≤ am_Lo m)
    | _ => true)
  | .invokespecial x => (match b with
    | 1 => decide ((am_ow m, x, 1, a) ∈ am_ML) && am_call_ok m a c
    | 2 => decide ((am_ow m, x, 2, a) ∈ am_ML) && am_call_ok m a c
    | 4 => decide ((am_ow m, x) ∈ am_OI) && am_prim_ok m
    | _ => true)
  | .invokestatic x => (match b with
    | 3 => decide ((am_ow m, x, 3, a) ∈ am_ML) && am_call_ok m a c
    | 6 => decide ((am_ow m, x) ∈ am_CP) && decide (1 ≤ am_D m) && decide (26 ≤ am_Lo m)
    | 7 => decide ((am_ow m, x) ∈ am_MX) && decide (1 ≤ am_D m) && decide (21 ≤ am_Lo m)
    | 8 => decide ((am_ow m, x) ∈ am_MN) && decide (1 ≤ am_D m) && decide (21 ≤ am_Lo m)
    | _ => true)
  | .ireturn => (match a with
    | 0 => decide (am_rt m = some .int)
    | _ => decide (am_rt m = some .boolean))
  | .lreturn => decide (am_rt m = some .long)
  | .areturn => am_isref (am_rt m)
  | .return_ => decide (am_rt m = none)
  | _ => true
def am_okb (m pc : Nat) (e : am_e) : Bool := match e with
  | (i, nx, a, b, c, k, l) => (match i with
    | .nop => true
    | .tableswitch d lo hi offs => decide (decode (am_bc m) pc = .ok (.tableswitch d lo hi offs, nx - pc)) && decide ((pc : Int) + d = (a : Int)) && decide (b = pc) && (List.range (hi - lo + 1).toNat).all (fun j => match offs[j]? with
      | some off => decide (0 ≤ (pc : Int) + off)
      | none => false)
    | i => decide (decode (am_bc m) pc = .ok (i, am_lni i)) && decide (nx = pc + am_lni i) && am_okb1 m pc i a b c k l)
def am_oks (m : Nat) : Nat → List am_e → Bool
  | _, [] => true
  | pc, e :: es => am_okb m pc e && am_oks m (pc + 1) es
theorem am_oks_at {m : Nat} : ∀ (es : List am_e) (pc : Nat), am_oks m pc es = true → ∀ (j : Nat) (e : am_e), am_get es j = some e → am_okb m (pc + j) e = true
  | [], pc, h, j, e, he => by simp [am_get] at he
  | x :: es, pc, h, 0, e, he => by
    simp only [am_get, Option.some.injEq] at he
    subst he
    simp only [am_oks, Bool.and_eq_true] at h
    exact h.1
  | x :: es, pc, h, j + 1, e, he => by
    simp only [am_get] at he
    simp only [am_oks, Bool.and_eq_true] at h
    have := am_oks_at es (pc + 1) h.2 j e he
    rw [show pc + (j + 1) = pc + 1 + j by omega]
    exact this
theorem am_oks_0 : am_oks 0 0 k_An_init = true := by decide +kernel
theorem am_oks_1 : am_oks 1 0 k_An_clear = true := by decide +kernel
theorem am_oks_2 : am_oks 2 0 k_An_count = true := by decide +kernel
theorem am_oks_3 : am_oks 3 0 k_An_add = true := by decide +kernel
theorem am_oks_4 : am_oks 4 0 k_An_has = true := by decide +kernel
theorem am_oks_5 : am_oks 5 0 k_An_textAt = true := by decide +kernel
theorem am_oks_6 : am_oks 6 0 k_An_weightAt = true := by decide +kernel
theorem am_oks_7 : am_oks 7 0 k_La_init = true := by decide +kernel
theorem am_oks_8 : am_oks 8 0 k_La_number = true := by decide +kernel
theorem am_oks_9 : am_oks 9 0 k_La_isStop = true := by decide +kernel
theorem am_oks_10 : am_oks 10 0 k_La_addStop = true := by decide +kernel
theorem am_oks_11 : am_oks 11 0 k_La_ruleCount = true := by decide +kernel
theorem am_oks_12 : am_oks 12 0 k_La_addRule = true := by decide +kernel
theorem am_oks_13 : am_oks 13 0 k_La_stemOf = true := by decide +kernel
theorem am_oks_14 : am_oks 14 0 k_La_isEnding = true := by decide +kernel
theorem am_oks_15 : am_oks 15 0 k_La_stemInTexts = true := by decide +kernel
theorem am_oks_16 : am_oks 16 0 k_Li_init = true := by decide +kernel
theorem am_oks_17 : am_oks 17 0 k_Li_clear = true := by decide +kernel
theorem am_oks_18 : am_oks 18 0 k_Li_count = true := by decide +kernel
theorem am_oks_19 : am_oks 19 0 k_Li_wordAt = true := by decide +kernel
theorem am_oks_20 : am_oks 20 0 k_Li_search = true := by decide +kernel
theorem am_oks_21 : am_oks 21 0 k_Li_offer = true := by decide +kernel
theorem am_oks_22 : am_oks 22 0 k_Li_holds = true := by decide +kernel
theorem am_oks_23 : am_oks 23 0 k_Li_insert = true := by decide +kernel
theorem am_oks_24 : am_oks 24 0 k_Li_standsBefore = true := by decide +kernel
theorem am_oks_25 : am_oks 25 0 k_Li_changesNeeded = true := by decide +kernel
theorem am_oks_26 : am_oks 26 0 k_Pa_init = true := by decide +kernel
theorem am_oks_27 : am_oks 27 0 k_Qu_init = true := by decide +kernel
theorem am_oks_28 : am_oks 28 0 k_Qu_read = true := by decide +kernel
theorem am_oks_29 : am_oks 29 0 k_Qu_skipBlanks = true := by decide +kernel
theorem am_oks_30 : am_oks 30 0 k_Qu_readPart = true := by decide +kernel
theorem am_oks_31 : am_oks 31 0 k_Qu_readPhrase = true := by decide +kernel
theorem am_oks_32 : am_oks 32 0 k_Qu_readWord = true := by decide +kernel
theorem am_oks_33 : am_oks 33 0 k_Qu_seek = true := by decide +kernel
theorem am_oks_34 : am_oks 34 0 k_Qu_stemSought = true := by decide +kernel
theorem am_oks_35 : am_oks 35 0 k_Qu_soughtBy = true := by decide +kernel
theorem am_oks_36 : am_oks 36 0 k_Qu_weigh = true := by decide +kernel
theorem am_oks_37 : am_oks 37 0 k_Qu_hasTerm = true := by decide +kernel
theorem am_oks_38 : am_oks 38 0 k_Qu_weightOf = true := by decide +kernel
theorem am_oks_39 : am_oks 39 0 k_Qu_isAnsweredBy = true := by decide +kernel
theorem am_oks_40 : am_oks 40 0 k_Qu_isPartAnsweredBy = true := by decide +kernel
theorem am_oks_41 : am_oks 41 0 k_Sh_init = true := by decide +kernel
theorem am_oks_42 : am_oks 42 0 k_Sh_put = true := by decide +kernel
theorem am_oks_43 : am_oks 43 0 k_Sh_takeAway = true := by decide +kernel
theorem am_oks_44 : am_oks 44 0 k_Sh_has = true := by decide +kernel
theorem am_oks_45 : am_oks 45 0 k_Sh_isIn = true := by decide +kernel
theorem am_oks_46 : am_oks 46 0 k_Sh_firstOf = true := by decide +kernel
theorem am_oks_47 : am_oks 47 0 k_Sh_endOf = true := by decide +kernel
theorem am_oks_48 : am_oks 48 0 k_Sh_stemAgain = true := by decide +kernel
theorem am_oks_49 : am_oks 49 0 k_Sh_hasPlace = true := by decide +kernel
theorem am_oks_50 : am_oks 50 0 k_Sh_startOf = true := by decide +kernel
theorem am_oks_51 : am_oks 51 0 k_Sh_sizeOf = true := by decide +kernel
theorem am_oks_52 : am_oks 52 0 k_Sh_countTexts = true := by decide +kernel
theorem am_oks_53 : am_oks 53 0 k_Sh_countStems = true := by decide +kernel
theorem am_oks_54 : am_oks 54 0 k_Sh_countNewStems = true := by decide +kernel
theorem am_oks_55 : am_oks 55 0 k_Sh_hasEarlier = true := by decide +kernel
theorem am_oks_56 : am_oks 56 0 k_Sh_timesOf = true := by decide +kernel
theorem am_oks_57 : am_oks 57 0 k_Sh_countTextsWith = true := by decide +kernel
theorem am_oks_58 : am_oks 58 0 k_Sh_hasBeginning = true := by decide +kernel
theorem am_oks_59 : am_oks 59 0 k_Sh_hasPhrase = true := by decide +kernel
theorem am_oks_60 : am_oks 60 0 k_Sh_standsAt = true := by decide +kernel
theorem am_oks_61 : am_oks 61 0 k_Sh_wordUnlessStop = true := by decide +kernel
theorem am_oks_62 : am_oks 62 0 k_Ta_init = true := by decide +kernel
theorem am_oks_63 : am_oks 63 0 k_Ta_length = true := by decide +kernel
theorem am_oks_64 : am_oks 64 0 k_Ta_append = true := by decide +kernel
theorem am_oks_65 : am_oks 65 0 k_Ta_clear = true := by decide +kernel
theorem am_oks_66 : am_oks 66 0 k_Ta_symbolAt = true := by decide +kernel
theorem am_oks_67 : am_oks 67 0 k_Ta_wordEnd = true := by decide +kernel
theorem am_oks_68 : am_oks 68 0 k_Ta_wordBetween = true := by decide +kernel
theorem am_oks_69 : am_oks 69 0 k_Ta_split = true := by decide +kernel
theorem am_oks_70 : am_oks 70 0 k_Ta_keepWord = true := by decide +kernel
theorem am_oks_71 : am_oks 71 0 k_Ta_wordCount = true := by decide +kernel
theorem am_oks_72 : am_oks 72 0 k_Ta_hasWord = true := by decide +kernel
theorem am_oks_73 : am_oks 73 0 k_Ta_wordAt = true := by decide +kernel
theorem am_oks_74 : am_oks 74 0 k_Ta_startAt = true := by decide +kernel
theorem am_oks_75 : am_oks 75 0 k_Ta_sizeAt = true := by decide +kernel
theorem am_oks_76 : am_oks 76 0 k_Wo_digitOf = true := by decide +kernel
theorem am_oks_77 : am_oks 77 0 k_Wo_withDigit = true := by decide +kernel
theorem am_oks_78 : am_oks 78 0 k_Wo_withZeros = true := by decide +kernel
theorem am_oks_79 : am_oks 79 0 k_Wo_withoutLast = true := by decide +kernel
theorem am_oks_80 : am_oks 80 0 k_Wo_lengthOf = true := by decide +kernel
theorem am_oks_81 : am_oks 81 0 k_Wo_symbolAt = true := by decide +kernel
theorem am_oks_82 : am_oks 82 0 k_Wo_isBeginning = true := by decide +kernel
theorem am_oks_83 : am_oks 83 0 k_Wo_spread = true := by decide +kernel
theorem am_oks_84 : am_oks 84 0 k_TI_init = true := by decide +kernel
theorem am_oks_85 : am_oks 85 0 k_TI_type = true := by decide +kernel
theorem am_oks_86 : am_oks 86 0 k_TI_text = true := by decide +kernel
theorem am_oks_87 : am_oks 87 0 k_TI_remove = true := by decide +kernel
theorem am_oks_88 : am_oks 88 0 k_TI_stop = true := by decide +kernel
theorem am_oks_89 : am_oks 89 0 k_TI_ending = true := by decide +kernel
theorem am_oks_90 : am_oks 90 0 k_TI_stem = true := by decide +kernel
theorem am_oks_91 : am_oks 91 0 k_TI_ask = true := by decide +kernel
theorem am_oks_92 : am_oks 92 0 k_TI_answer = true := by decide +kernel
theorem am_oks_93 : am_oks 93 0 k_TI_score = true := by decide +kernel
theorem am_oks_94 : am_oks 94 0 k_TI_like = true := by decide +kernel
theorem am_oks_95 : am_oks 95 0 k_TI_word = true := by decide +kernel
theorem am_oks_96 : am_oks 96 0 k_TI_at = true := by decide +kernel
theorem am_oks_97 : am_oks 97 0 k_TI_place = true := by decide +kernel
theorem am_oks_98 : am_oks 98 0 k_TI_texts = true := by decide +kernel
theorem am_oks_99 : am_oks 99 0 k_TI_stems = true := by decide +kernel
theorem am_oks_100 : am_oks 100 0 k_TI_languageOf = true := by decide +kernel
theorem am_oks_101 : am_oks 101 0 k_TI_takeFirstWord = true := by decide +kernel
theorem am_oks_102 : am_oks 102 0 k_TI_tell = true := by decide +kernel
theorem am_oks_103 : am_oks 103 0 k_Mo_init = true := by decide +kernel
theorem am_oks_104 : am_oks 104 0 k_Mo_byteOf = true := by decide +kernel
theorem am_oks_105 : am_oks 105 0 k_Mo_same = true := by decide +kernel
theorem am_oks_106 : am_oks 106 0 k_Mo_beginsSo = true := by decide +kernel
theorem am_oks_107 : am_oks 107 0 k_Mo_add = true := by decide +kernel
theorem am_oks_108 : am_oks 108 0 k_Mo_copy = true := by decide +kernel
theorem am_oks_109 : am_oks 109 0 k_Mo_letter = true := by decide +kernel
theorem am_oks_110 : am_oks 110 0 k_Mo_type = true := by decide +kernel
theorem am_oks_111 : am_oks 111 0 k_Mo_readWords = true := by decide +kernel
theorem am_oks_112 : am_oks 112 0 k_Mo_isLanguage = true := by decide +kernel
theorem am_oks_113 : am_oks 113 0 k_Mo_isStop = true := by decide +kernel
theorem am_oks_114 : am_oks 114 0 k_Mo_stop = true := by decide +kernel
theorem am_oks_115 : am_oks 115 0 k_Mo_endingAt = true := by decide +kernel
theorem am_oks_116 : am_oks 116 0 k_Mo_ending = true := by decide +kernel
theorem am_oks_117 : am_oks 117 0 k_Mo_ends = true := by decide +kernel
theorem am_oks_118 : am_oks 118 0 k_Mo_stemTo = true := by decide +kernel
theorem am_oks_119 : am_oks 119 0 k_Mo_show = true := by decide +kernel
theorem am_oks_120 : am_oks 120 0 k_Mo_stem = true := by decide +kernel
theorem am_oks_121 : am_oks 121 0 k_Mo_at = true := by decide +kernel
theorem am_oks_122 : am_oks 122 0 k_Mo_text = true := by decide +kernel
theorem am_oks_123 : am_oks 123 0 k_Mo_wordsOf = true := by decide +kernel
theorem am_oks_124 : am_oks 124 0 k_Mo_isText = true := by decide +kernel
theorem am_oks_125 : am_oks 125 0 k_Mo_remove = true := by decide +kernel
theorem am_oks_126 : am_oks 126 0 k_Mo_texts = true := by decide +kernel
theorem am_oks_127 : am_oks 127 0 k_Mo_place = true := by decide +kernel
theorem am_oks_128 : am_oks 128 0 k_Mo_hasAt = true := by decide +kernel
theorem am_oks_129 : am_oks 129 0 k_Mo_times = true := by decide +kernel
theorem am_oks_130 : am_oks 130 0 k_Mo_stems = true := by decide +kernel
theorem am_oks_131 : am_oks 131 0 k_Mo_isFirst = true := by decide +kernel
theorem am_oks_132 : am_oks 132 0 k_Mo_here = true := by decide +kernel
theorem am_oks_133 : am_oks 133 0 k_Mo_need = true := by decide +kernel
theorem am_oks_134 : am_oks 134 0 k_Mo_skip = true := by decide +kernel
theorem am_oks_135 : am_oks 135 0 k_Mo_isLetter = true := by decide +kernel
theorem am_oks_136 : am_oks 136 0 k_Mo_isPart = true := by decide +kernel
theorem am_oks_137 : am_oks 137 0 k_Mo_readWord = true := by decide +kernel
theorem am_oks_138 : am_oks 138 0 k_Mo_readPart = true := by decide +kernel
theorem am_oks_139 : am_oks 139 0 k_Mo_readQuestion = true := by decide +kernel
theorem am_oks_140 : am_oks 140 0 k_Mo_hasPhrase = true := by decide +kernel
theorem am_oks_141 : am_oks 141 0 k_Mo_answersPart = true := by decide +kernel
theorem am_oks_142 : am_oks 142 0 k_Mo_answersRow = true := by decide +kernel
theorem am_oks_143 : am_oks 143 0 k_Mo_isAsked = true := by decide +kernel
theorem am_oks_144 : am_oks 144 0 k_Mo_countStems = true := by decide +kernel
theorem am_oks_145 : am_oks 145 0 k_Mo_scoreOf = true := by decide +kernel
theorem am_oks_146 : am_oks 146 0 k_Mo_ask = true := by decide +kernel
theorem am_oks_147 : am_oks 147 0 k_Mo_answer = true := by decide +kernel
theorem am_oks_148 : am_oks 148 0 k_Mo_score = true := by decide +kernel
theorem am_oks_149 : am_oks 149 0 k_Mo_distance = true := by decide +kernel
theorem am_oks_150 : am_oks 150 0 k_Mo_isBefore = true := by decide +kernel
theorem am_oks_151 : am_oks 151 0 k_Mo_like = true := by decide +kernel
theorem am_oks_152 : am_oks 152 0 k_Mo_isLiked = true := by decide +kernel
theorem am_oks_153 : am_oks 153 0 k_Mo_word = true := by decide +kernel
theorem am_oks_154 : am_oks 154 0 k_Law_law = true := by decide +kernel
theorem am_oks_155 : am_oks 155 0 k_AL_init = true := by decide +kernel
theorem am_oks_156 : am_oks 156 0 k_AL_grow1 = true := by decide +kernel
theorem am_oks_157 : am_oks 157 0 k_AL_grow2 = true := by decide +kernel
theorem am_oks_158 : am_oks 158 0 k_AL_size = true := by decide +kernel
theorem am_oks_159 : am_oks 159 0 k_AL_elementData = true := by decide +kernel
theorem am_oks_160 : am_oks 160 0 k_AL_get = true := by decide +kernel
theorem am_oks_161 : am_oks 161 0 k_AL_add1 = true := by decide +kernel
theorem am_oks_162 : am_oks 162 0 k_AL_add2 = true := by decide +kernel
theorem am_oks_163 : am_oks 163 0 k_AL_clear = true := by decide +kernel
theorem am_oks_164 : am_oks 164 0 k_Ab_init = true := by decide +kernel
theorem am_oks_165 : am_oks 165 0 k_AC_init = true := by decide +kernel
theorem am_oks_166 : am_oks 166 0 k_Ar_copyOf1 = true := by decide +kernel
theorem am_oks_167 : am_oks 167 0 k_Ar_copyOf2 = true := by decide +kernel
theorem am_oks_168 : am_oks 168 0 k_Ar_copyOf3 = true := by decide +kernel
theorem am_oks_169 : am_oks 169 0 k_Ob_checkIndex = true := by decide +kernel
theorem am_oks_170 : am_oks 170 0 k_AS_newLength = true := by decide +kernel
theorem am_oks_171 : am_oks 171 0 k_Pr_checkIndex = true := by decide +kernel
theorem am_okE : ∀ (m : Nat) (l : List am_e), am_get am_code m = some l → am_oks m 0 l = true := by
  intro m l h
  match m, h with
  | 0, h => cases h; exact am_oks_0
  | 1, h => cases h; exact am_oks_1
  | 2, h => cases h; exact am_oks_2
  | 3, h => cases h; exact am_oks_3
  | 4, h => cases h; exact am_oks_4
  | 5, h => cases h; exact am_oks_5
  | 6, h => cases h; exact am_oks_6
  | 7, h => cases h; exact am_oks_7
  | 8, h => cases h; exact am_oks_8
  | 9, h => cases h; exact am_oks_9
  | 10, h => cases h; exact am_oks_10
  | 11, h => cases h; exact am_oks_11
  | 12, h => cases h; exact am_oks_12
  | 13, h => cases h; exact am_oks_13
  | 14, h => cases h; exact am_oks_14
  | 15, h => cases h; exact am_oks_15
  | 16, h => cases h; exact am_oks_16
  | 17, h => cases h; exact am_oks_17
  | 18, h => cases h; exact am_oks_18
  | 19, h => cases h; exact am_oks_19
  | 20, h => cases h; exact am_oks_20
  | 21, h => cases h; exact am_oks_21
  | 22, h => cases h; exact am_oks_22
  | 23, h => cases h; exact am_oks_23
  | 24, h => cases h; exact am_oks_24
  | 25, h => cases h; exact am_oks_25
  | 26, h => cases h; exact am_oks_26
  | 27, h => cases h; exact am_oks_27
  | 28, h => cases h; exact am_oks_28
  | 29, h => cases h; exact am_oks_29
  | 30, h => cases h; exact am_oks_30
  | 31, h => cases h; exact am_oks_31
  | 32, h => cases h; exact am_oks_32
  | 33, h => cases h; exact am_oks_33
  | 34, h => cases h; exact am_oks_34
  | 35, h => cases h; exact am_oks_35
  | 36, h => cases h; exact am_oks_36
  | 37, h => cases h; exact am_oks_37
  | 38, h => cases h; exact am_oks_38
  | 39, h => cases h; exact am_oks_39
  | 40, h => cases h; exact am_oks_40
  | 41, h => cases h; exact am_oks_41
  | 42, h => cases h; exact am_oks_42
  | 43, h => cases h; exact am_oks_43
  | 44, h => cases h; exact am_oks_44
  | 45, h => cases h; exact am_oks_45
  | 46, h => cases h; exact am_oks_46
  | 47, h => cases h; exact am_oks_47
  | 48, h => cases h; exact am_oks_48
  | 49, h => cases h; exact am_oks_49
  | 50, h => cases h; exact am_oks_50
  | 51, h => cases h; exact am_oks_51
  | 52, h => cases h; exact am_oks_52
  | 53, h => cases h; exact am_oks_53
  | 54, h => cases h; exact am_oks_54
  | 55, h => cases h; exact am_oks_55
  | 56, h => cases h; exact am_oks_56
  | 57, h => cases h; exact am_oks_57
  | 58, h => cases h; exact am_oks_58
  | 59, h => cases h; exact am_oks_59
  | 60, h => cases h; exact am_oks_60
  | 61, h => cases h; exact am_oks_61
  | 62, h => cases h; exact am_oks_62
  | 63, h => cases h; exact am_oks_63
  | 64, h => cases h; exact am_oks_64
  | 65, h => cases h; exact am_oks_65
  | 66, h => cases h; exact am_oks_66
  | 67, h => cases h; exact am_oks_67
  | 68, h => cases h; exact am_oks_68
  | 69, h => cases h; exact am_oks_69
  | 70, h => cases h; exact am_oks_70
  | 71, h => cases h; exact am_oks_71
  | 72, h => cases h; exact am_oks_72
  | 73, h => cases h; exact am_oks_73
  | 74, h => cases h; exact am_oks_74
  | 75, h => cases h; exact am_oks_75
  | 76, h => cases h; exact am_oks_76
  | 77, h => cases h; exact am_oks_77
  | 78, h => cases h; exact am_oks_78
  | 79, h => cases h; exact am_oks_79
  | 80, h => cases h; exact am_oks_80
  | 81, h => cases h; exact am_oks_81
  | 82, h => cases h; exact am_oks_82
  | 83, h => cases h; exact am_oks_83
  | 84, h => cases h; exact am_oks_84
  | 85, h => cases h; exact am_oks_85
  | 86, h => cases h; exact am_oks_86
  | 87, h => cases h; exact am_oks_87
  | 88, h => cases h; exact am_oks_88
  | 89, h => cases h; exact am_oks_89
  | 90, h => cases h; exact am_oks_90
  | 91, h => cases h; exact am_oks_91
  | 92, h => cases h; exact am_oks_92
  | 93, h => cases h; exact am_oks_93
  | 94, h => cases h; exact am_oks_94
  | 95, h => cases h; exact am_oks_95
  | 96, h => cases h; exact am_oks_96
  | 97, h => cases h; exact am_oks_97
  | 98, h => cases h; exact am_oks_98
  | 99, h => cases h; exact am_oks_99
  | 100, h => cases h; exact am_oks_100
  | 101, h => cases h; exact am_oks_101
  | 102, h => cases h; exact am_oks_102
  | 103, h => cases h; exact am_oks_103
  | 104, h => cases h; exact am_oks_104
  | 105, h => cases h; exact am_oks_105
  | 106, h => cases h; exact am_oks_106
  | 107, h => cases h; exact am_oks_107
  | 108, h => cases h; exact am_oks_108
  | 109, h => cases h; exact am_oks_109
  | 110, h => cases h; exact am_oks_110
  | 111, h => cases h; exact am_oks_111
  | 112, h => cases h; exact am_oks_112
  | 113, h => cases h; exact am_oks_113
  | 114, h => cases h; exact am_oks_114
  | 115, h => cases h; exact am_oks_115
  | 116, h => cases h; exact am_oks_116
  | 117, h => cases h; exact am_oks_117
  | 118, h => cases h; exact am_oks_118
  | 119, h => cases h; exact am_oks_119
  | 120, h => cases h; exact am_oks_120
  | 121, h => cases h; exact am_oks_121
  | 122, h => cases h; exact am_oks_122
  | 123, h => cases h; exact am_oks_123
  | 124, h => cases h; exact am_oks_124
  | 125, h => cases h; exact am_oks_125
  | 126, h => cases h; exact am_oks_126
  | 127, h => cases h; exact am_oks_127
  | 128, h => cases h; exact am_oks_128
  | 129, h => cases h; exact am_oks_129
  | 130, h => cases h; exact am_oks_130
  | 131, h => cases h; exact am_oks_131
  | 132, h => cases h; exact am_oks_132
  | 133, h => cases h; exact am_oks_133
  | 134, h => cases h; exact am_oks_134
  | 135, h => cases h; exact am_oks_135
  | 136, h => cases h; exact am_oks_136
  | 137, h => cases h; exact am_oks_137
  | 138, h => cases h; exact am_oks_138
  | 139, h => cases h; exact am_oks_139
  | 140, h => cases h; exact am_oks_140
  | 141, h => cases h; exact am_oks_141
  | 142, h => cases h; exact am_oks_142
  | 143, h => cases h; exact am_oks_143
  | 144, h => cases h; exact am_oks_144
  | 145, h => cases h; exact am_oks_145
  | 146, h => cases h; exact am_oks_146
  | 147, h => cases h; exact am_oks_147
  | 148, h => cases h; exact am_oks_148
  | 149, h => cases h; exact am_oks_149
  | 150, h => cases h; exact am_oks_150
  | 151, h => cases h; exact am_oks_151
  | 152, h => cases h; exact am_oks_152
  | 153, h => cases h; exact am_oks_153
  | 154, h => cases h; exact am_oks_154
  | 155, h => cases h; exact am_oks_155
  | 156, h => cases h; exact am_oks_156
  | 157, h => cases h; exact am_oks_157
  | 158, h => cases h; exact am_oks_158
  | 159, h => cases h; exact am_oks_159
  | 160, h => cases h; exact am_oks_160
  | 161, h => cases h; exact am_oks_161
  | 162, h => cases h; exact am_oks_162
  | 163, h => cases h; exact am_oks_163
  | 164, h => cases h; exact am_oks_164
  | 165, h => cases h; exact am_oks_165
  | 166, h => cases h; exact am_oks_166
  | 167, h => cases h; exact am_oks_167
  | 168, h => cases h; exact am_oks_168
  | 169, h => cases h; exact am_oks_169
  | 170, h => cases h; exact am_oks_170
  | 171, h => cases h; exact am_oks_171
  | n + 172, h => simp [am_code, am_get] at h
theorem am_E_ok {m pc : Nat} {e : am_e} (h : am_E m pc = some e) : am_okb m pc e = true := by
  unfold am_E at h
  cases hm : am_get am_code m with
  | none => rw [hm] at h; cases h
  | some l =>
    rw [hm] at h
    have := am_oks_at l 0 (am_okE m l hm) pc e h
    rwa [Nat.zero_add] at this
end
section
/-! the abstract machine's steps -/
def am_kill (o : Option Value) : Option Value := match o with
  | some (.long _) => none
  | some (.double _) => none
  | o => o
/-- a value of one slot is stored -/
def am_st1 : List (Option Value) → Nat → Value → List (Option Value)
  | [], _, _ => []
  | _ :: l, 0, v => some v :: l
  | x :: l, n + 1, v => (match n with | 0 => am_kill x | _ => x) :: am_st1 l n v
/-- a long is stored -/
def am_st2 : List (Option Value) → Nat → Value → List (Option Value)
  | [], _, _ => []
  | _ :: l, 0, v => some v :: (match l with | [] => [] | _ :: l' => none :: l')
  | x :: l, n + 1, v => (match n with | 0 => am_kill x | _ => x) :: am_st2 l n v
/-- what a field of a kind may hold -/
def am_fg (ty : FieldType) (v : Value) : Prop := match ty, v with
  | .int, .int _ => True
  | .long, .long _ => True
  | .boolean, .int x => x = 0 ∨ x = 1
  | .object _, .ref _ => True
  | .object _, .null => True
  | .array _, .ref _ => True
  | .array _, .null => True
  | _, _ => False
def am_tk : Nat → List Value → List Value → Option (List Value × List Value)
  | 0, st, acc => some (acc, st)
  | n + 1, v :: st, acc => am_tk n st (v :: acc)
  | _ + 1, [], _ => none
def am_room (st : List Value) : Bool := Nat.ble (st.map fun v => v.category).sum 8
def am_fits (as : List Value) (n : Nat) : Bool := Nat.ble (as.map fun v => v.category).sum n
/-- the arguments as locals -/
def am_ent : Nat → List Value → List (Option Value)
  | n, [] => List.replicate n none
  | 0, _ :: _ => []
  | n + 1, v :: vs => some v :: (match v with
    | .long _ => (match n with | 0 => [] | m + 1 => none :: am_ent m vs)
    | .double _ => (match n with | 0 => [] | m + 1 => none :: am_ent m vs)
    | _ => am_ent n vs)
/-- 0 a step, 1 a call, 2 an end -/
def am_kd (i : Jvm.ClassFile.Instr) (b : Nat) : Nat := match i with
  | .invokevirtual _ => (match b with | 0 => 1 | 5 => 0 | _ => 9)
  | .invokespecial _ => (match b with | 1 => 1 | 2 => 1 | 4 => 0 | _ => 9)
  | .invokestatic _ => (match b with | 3 => 1 | 6 => 0 | 7 => 0 | 8 => 0 | _ => 9)
  | .ireturn => 2
  | .lreturn => 2
  | .areturn => 2
  | .return_ => 2
  | _ => 0
abbrev am_O : Type := Prop × Nat × List (Option Value) × List Value × List am_C
def am_ldi (nx a b : Nat) (k : Int32) (l : Int64) (ls : List (Option Value)) (st : List Value) (h : List am_C) : Option am_O := match am_get ls a with
  | some (some (.int x)) => some (True, nx, ls, .int x :: st, h)
  | _ => none
def am_ldl (nx a b : Nat) (k : Int32) (l : Int64) (ls : List (Option Value)) (st : List Value) (h : List am_C) : Option am_O := match am_get ls a with
  | some (some (.long x)) => some (True, nx, ls, .long x :: st, h)
  | _ => none
def am_lda (nx a b : Nat) (k : Int32) (l : Int64) (ls : List (Option Value)) (st : List Value) (h : List am_C) : Option am_O := match am_get ls a with
  | some (some (.ref x)) => some (True, nx, ls, .ref x :: st, h)
  | some (some .null) => some (True, nx, ls, .null :: st, h)
  | _ => none
def am_sti (nx a b : Nat) (k : Int32) (l : Int64) (ls : List (Option Value)) (st : List Value) (h : List am_C) : Option am_O := match st with
  | .int x :: r => some (True, nx, am_st1 ls a (.int x), r, h)
  | _ => none
def am_stl (nx a b : Nat) (k : Int32) (l : Int64) (ls : List (Option Value)) (st : List Value) (h : List am_C) : Option am_O := match st with
  | .long x :: r => some (True, nx, am_st2 ls a (.long x), r, h)
  | _ => none
def am_sta (nx a b : Nat) (k : Int32) (l : Int64) (ls : List (Option Value)) (st : List Value) (h : List am_C) : Option am_O := match st with
  | .ref x :: r => some (True, nx, am_st1 ls a (.ref x), r, h)
  | .null :: r => some (True, nx, am_st1 ls a .null, r, h)
  | _ => none
def am_cst (nx a b : Nat) (k : Int32) (l : Int64) (ls : List (Option Value)) (st : List Value) (h : List am_C) : Option am_O := some (True, nx, ls, .int k :: st, h)
/-- comparisons of two ints, of one with 0 -/
def am_i2 (c : Jvm.ClassFile.Cond) (nx a b : Nat) (k : Int32) (l : Int64) (ls : List (Option Value)) (st : List Value) (h : List am_C) : Option am_O := match st with
  | .int y :: .int x :: r => (match c with
    | .eq => some (True, if x = y then a else nx, ls, r, h)
    | .ne => some (True, if ¬ x = y then a else nx, ls, r, h)
    | .lt => some (True, if x < y then a else nx, ls, r, h)
    | .ge => some (True, if y ≤ x then a else nx, ls, r, h)
    | .gt => some (True, if y < x then a else nx, ls, r, h)
    | .le => some (True, if x ≤ y then a else nx, ls, r, h))
  | _ => none
def am_i1 (c : Jvm.ClassFile.Cond) (nx a b : Nat) (k : Int32) (l : Int64) (ls : List (Option Value)) (st : List Value) (h : List am_C) : Option am_O := match st with
  | .int x :: r => (match c with
    | .eq => some (True, if x = 0 then a else nx, ls, r, h)
    | .ne => some (True, if ¬ x = 0 then a else nx, ls, r, h)
    | .lt => some (True, if x < 0 then a else nx, ls, r, h)
    | .ge => some (True, if 0 ≤ x then a else nx, ls, r, h)
    | .gt => some (True, if 0 < x then a else nx, ls, r, h)
    | .le => some (True, if x ≤ 0 then a else nx, ls, r, h))
  | _ => none
def am_acmp (c : Jvm.ClassFile.ACond) (nx a b : Nat) (k : Int32) (l : Int64) (ls : List (Option Value)) (st : List Value) (h : List am_C) : Option am_O := match st with
  | .ref y :: .ref x :: r => (match c with
    | .eq => some (x = y ∨ (1 ≤ x ∧ x ≤ 3 ∧ 1 ≤ y ∧ y ≤ 3), if x = y then a else nx, ls, r, h)
    | .ne => some (x = y ∨ (1 ≤ x ∧ x ≤ 3 ∧ 1 ≤ y ∧ y ≤ 3), if ¬ x = y then a else nx, ls, r, h))
  | _ => none
/-- reading and writing rows -/
def am_ald (t1 t2 : Nat) (nx a b : Nat) (k : Int32) (l : Int64) (ls : List (Option Value)) (st : List Value) (h : List am_C) : Option am_O := match st with
  | .int i :: .ref r :: st' => (match am_get h r with
    | some (.inl (t, (n, .inl f))) => (match Nat.beq t t1 || Nat.beq t t2 with
      | true => some (vp_in i n, nx, ls, .int (f i.toNatClampNeg) :: st', h)
      | false => none)
    | _ => none)
  | _ => none
def am_lald (nx a b : Nat) (k : Int32) (l : Int64) (ls : List (Option Value)) (st : List Value) (h : List am_C) : Option am_O := match st with
  | .int i :: .ref r :: st' => (match am_get h r with
    | some (.inl (t, (n, .inr (.inl f)))) => (match Nat.beq t 3 with
      | true => some (vp_in i n, nx, ls, .long (f i.toNatClampNeg) :: st', h)
      | false => none)
    | _ => none)
  | _ => none
def am_aald (nx a b : Nat) (k : Int32) (l : Int64) (ls : List (Option Value)) (st : List Value) (h : List am_C) : Option am_O := match st with
  | .int i :: .ref r :: st' => (match am_get h r with
    | some (.inl (t, (n, .inr (.inr (.inr (.inr f)))))) => (match Nat.ble 6 r && (Nat.beq t 4 || Nat.beq t 5) with
      | true => some (vp_in i n, nx, ls, va_rf (f i.toNatClampNeg) :: st', h)
      | false => none)
    | _ => none)
  | _ => none
def am_iast (nx a b : Nat) (k : Int32) (l : Int64) (ls : List (Option Value)) (st : List Value) (h : List am_C) : Option am_O := match st with
  | .int x :: .int i :: .ref r :: st' => (match am_get h r with
    | some (.inl (t, (n, .inl f))) => (match Nat.beq t 0 && Nat.ble 6 r with
      | true => some (vp_in i n, nx, ls, st', am_set h r (.inl (t, (n, .inl (upd f i.toNatClampNeg x)))))
      | false => none)
    | _ => none)
  | _ => none
def am_bast (nx a b : Nat) (k : Int32) (l : Int64) (ls : List (Option Value)) (st : List Value) (h : List am_C) : Option am_O := match st with
  | .int x :: .int i :: .ref r :: st' => (match am_get h r with
    | some (.inl (t, (n, .inl f))) => (match t with
      | 1 => some (vp_in i n, nx, ls, st', am_set h r (.inl (1, (n, .inl (upd f i.toNatClampNeg (vp_nar .byte x))))))
      | 2 => some (vp_in i n, nx, ls, st', am_set h r (.inl (2, (n, .inl (upd f i.toNatClampNeg (vp_nar .boolean x))))))
      | _ => none)
    | _ => none)
  | _ => none
def am_last (nx a b : Nat) (k : Int32) (l : Int64) (ls : List (Option Value)) (st : List Value) (h : List am_C) : Option am_O := match st with
  | .long x :: .int i :: .ref r :: st' => (match am_get h r with
    | some (.inl (t, (n, .inr (.inl f)))) => (match Nat.beq t 3 with
      | true => some (vp_in i n, nx, ls, st', am_set h r (.inl (t, (n, .inr (.inl (vp_updL f i.toNatClampNeg x))))))
      | false => none)
    | _ => none)
  | _ => none
/-- the kinds of objects that a row of objects takes: rows of Objects take Parts (9), rows of Languages take Languages (2) -/
def am_cast (t ci : Nat) : Bool := (Nat.beq t 4 && Nat.beq ci 9) || (Nat.beq t 5 && Nat.beq ci 2)
def am_aast (nx a b : Nat) (k : Int32) (l : Int64) (ls : List (Option Value)) (st : List Value) (h : List am_C) : Option am_O := match st with
  | .ref v :: .int i :: .ref r :: st' => (match am_get h r with
    | some (.inl (t, (n, .inr (.inr (.inr (.inr f)))))) => (match am_get h v with
      | some (.inr (ci, _)) => (match am_cast t ci && Nat.ble 6 r && Nat.ble 6 v with
        | true => some (vp_in i n, nx, ls, st', am_set h r (.inl (t, (n, .inr (.inr (.inr (.inr (va_up f i.toNatClampNeg (some v)))))))))
        | false => none)
      | _ => none)
    | _ => none)
  | .null :: .int i :: .ref r :: st' => (match am_get h r with
    | some (.inl (t, (n, .inr (.inr (.inr (.inr f)))))) => (match Nat.ble 6 r && (Nat.beq t 4 || Nat.beq t 5) with
      | true => some (vp_in i n, nx, ls, st', am_set h r (.inl (t, (n, .inr (.inr (.inr (.inr (va_up f i.toNatClampNeg none))))))))
      | false => none)
    | _ => none)
  | _ => none
def am_alen (nx a b : Nat) (k : Int32) (l : Int64) (ls : List (Option Value)) (st : List Value) (h : List am_C) : Option am_O := match st with
  | .ref r :: st' => (match am_get h r with
    | some (.inl (t, (n, _))) => (match Nat.ble t 5 with
      | true => some (True, nx, ls, .int (Int32.ofNat n) :: st', h)
      | false => none)
    | _ => none)
  | _ => none
def am_zero (t : Nat) (n : Nat) : am_C := match t with
  | 3 => .inl (3, (n, .inr (.inl fun _ => 0)))
  | t => .inl (t, (n, .inl fun _ => 0))
def am_newa (nx a b : Nat) (k : Int32) (l : Int64) (ls : List (Option Value)) (st : List Value) (h : List am_C) : Option am_O := match st with
  | .int n :: st' => some (¬ n < 0 ∧ n.toNatClampNeg ≤ 67108864, nx, ls, .ref h.length :: st', h ++ [am_zero a n.toNatClampNeg])
  | _ => none
def am_newq (nx a b : Nat) (k : Int32) (l : Int64) (ls : List (Option Value)) (st : List Value) (h : List am_C) : Option am_O := match st with
  | .int n :: st' => some (¬ n < 0 ∧ n.toNatClampNeg ≤ 67108864, nx, ls, .ref h.length :: st', h ++ [.inl (a, (n.toNatClampNeg, .inr (.inr (.inr (.inr fun _ => none)))))])
  | _ => none
def am_getf (nx a b : Nat) (k : Int32) (l : Int64) (ls : List (Option Value)) (st : List Value) (h : List am_C) : Option am_O := match st with
  | .ref r :: st' => (match am_get h r with
    | some (.inr (ci, fs)) => (match Nat.beq ci a with
      | true => (match am_get fs b with
        | some v => some (True, nx, ls, v :: st', h)
        | none => none)
      | false => none)
    | _ => none)
  | _ => none
def am_getc (nx a b : Nat) (k : Int32) (l : Int64) (ls : List (Option Value)) (st : List Value) (h : List am_C) : Option am_O := match st with
  | .ref r :: st' => (match am_get h r with
    | some (.inl (t, _)) => (match Nat.beq t 4 && Nat.ble 6 r && am_room st' with
      | true => some (True, nx, ls, .ref 4 :: st', h)
      | false => none)
    | _ => none)
  | _ => none
def am_chk (nx a b : Nat) (k : Int32) (l : Int64) (ls : List (Option Value)) (st : List Value) (h : List am_C) : Option am_O := match st with
  | .ref r :: st' => (match am_get h r with
    | some (.inr (ci, _)) => (match Nat.beq ci a && Nat.ble 6 r with
      | true => some (True, nx, ls, .ref r :: st', h)
      | false => none)
    | _ => none)
  | _ => none
def am_cpy (nx a b : Nat) (k : Int32) (l : Int64) (ls : List (Option Value)) (st : List Value) (h : List am_C) : Option am_O := match st with
  | .int n :: .int dp :: .ref r1 :: .int sp :: .ref r0 :: st' => (match am_room st', am_get h r0, am_get h r1 with
    | true, some (.inl (3, (n0, .inr (.inl f)))), some (.inl (3, (n1, .inr (.inl g)))) =>
      some (¬ sp < 0 ∧ ¬ dp < 0 ∧ ¬ n < 0 ∧ sp.toNatClampNeg + n.toNatClampNeg ≤ n0 ∧ dp.toNatClampNeg + n.toNatClampNeg ≤ n1, nx, ls, st',
        am_set h r1 (.inl (3, (n1, .inr (.inl (va_cpy f g sp.toNatClampNeg dp.toNatClampNeg n.toNatClampNeg))))))
    | true, some (.inl (4, (n0, .inr (.inr (.inr (.inr f)))))), some (.inl (4, (n1, .inr (.inr (.inr (.inr g)))))) =>
      some (6 ≤ r0 ∧ 6 ≤ r1 ∧ ¬ sp < 0 ∧ ¬ dp < 0 ∧ ¬ n < 0 ∧ sp.toNatClampNeg + n.toNatClampNeg ≤ n0 ∧ dp.toNatClampNeg + n.toNatClampNeg ≤ n1 ∧ (∀ i : Nat, i < n.toNatClampNeg → ∀ y : Nat, f (sp.toNatClampNeg + i) = some y → 6 ≤ y ∧ ∃ fs, am_get h y = some (.inr (9, fs))), nx, ls, st',
        am_set h r1 (.inl (4, (n1, .inr (.inr (.inr (.inr (va_cpy f g sp.toNatClampNeg dp.toNatClampNeg n.toNatClampNeg))))))))
    | _, _, _ => none)
  | _ => none
/-- one step of a method's own: what must hold for it, and what comes; the defaults of fields: am_df -/
def am_s (df : Nat → List Value) (ft : Nat → Nat → FieldType) (i : Jvm.ClassFile.Instr) (nx a b : Nat) (k : Int32) (l : Int64) (ls : List (Option Value)) (st : List Value) (h : List am_C) : Option am_O := match i with
  | .aconst_null => some (True, nx, ls, .null :: st, h)
  | .aload _ => am_lda nx a b k l ls st h
  | .aload_n _ => am_lda nx a b k l ls st h
  | .iload _ => am_ldi nx a b k l ls st h
  | .iload_n _ => am_ldi nx a b k l ls st h
  | .lload _ => am_ldl nx a b k l ls st h
  | .lload_n _ => am_ldl nx a b k l ls st h
  | .astore _ => am_sta nx a b k l ls st h
  | .astore_n _ => am_sta nx a b k l ls st h
  | .istore _ => am_sti nx a b k l ls st h
  | .istore_n _ => am_sti nx a b k l ls st h
  | .lstore _ => am_stl nx a b k l ls st h
  | .lstore_n _ => am_stl nx a b k l ls st h
  | .iconst _ => am_cst nx a b k l ls st h
  | .bipush _ => am_cst nx a b k l ls st h
  | .sipush _ => am_cst nx a b k l ls st h
  | .lconst _ => some (True, nx, ls, .long l :: st, h)
  | .ldc2_w _ => some (True, nx, ls, .long l :: st, h)
  | .ldc _ => (match b with
    | 0 => some (True, nx, ls, .int k :: st, h)
    | _ => some (True, nx, ls, .ref a :: st, h))
  | .getstatic _ => some (True, nx, ls, .ref a :: st, h)
  | .iinc _ _ => (match am_get ls a with
    | some (some (.int x)) => some (True, nx, am_st1 ls a (.int (x + k)), st, h)
    | _ => none)
  | .iadd => (match st with
    | .int y :: .int x :: r => some (True, nx, ls, .int (x + y) :: r, h)
    | _ => none)
  | .isub => (match st with
    | .int y :: .int x :: r => some (True, nx, ls, .int (x - y) :: r, h)
    | _ => none)
  | .imul => (match st with
    | .int y :: .int x :: r => some (True, nx, ls, .int (x * y) :: r, h)
    | _ => none)
  | .iand => (match st with
    | .int y :: .int x :: r => some (True, nx, ls, .int (x &&& y) :: r, h)
    | _ => none)
  | .irem => (match st with
    | .int y :: .int x :: r => some (¬ y = 0, nx, ls, .int (x - x / y * y) :: r, h)
    | _ => none)
  | .ishr => (match st with
    | .int y :: .int x :: r => some (True, nx, ls, .int (x >>> (y &&& 31)) :: r, h)
    | _ => none)
  | .ladd => (match st with
    | .long y :: .long x :: r => some (True, nx, ls, .long (x + y) :: r, h)
    | _ => none)
  | .lsub => (match st with
    | .long y :: .long x :: r => some (True, nx, ls, .long (x - y) :: r, h)
    | _ => none)
  | .lmul => (match st with
    | .long y :: .long x :: r => some (True, nx, ls, .long (x * y) :: r, h)
    | _ => none)
  | .land => (match st with
    | .long y :: .long x :: r => some (True, nx, ls, .long (x &&& y) :: r, h)
    | _ => none)
  | .lor => (match st with
    | .long y :: .long x :: r => some (True, nx, ls, .long (x ||| y) :: r, h)
    | _ => none)
  | .ldiv => (match st with
    | .long y :: .long x :: r => some (¬ y = 0, nx, ls, .long (x / y) :: r, h)
    | _ => none)
  | .lrem => (match st with
    | .long y :: .long x :: r => some (¬ y = 0, nx, ls, .long (x - x / y * y) :: r, h)
    | _ => none)
  | .lcmp => (match st with
    | .long y :: .long x :: r => some (True, nx, ls, .int (lg_cmp x y) :: r, h)
    | _ => none)
  | .lshl => (match st with
    | .int y :: .long x :: r => some (True, nx, ls, .long (x <<< (y.toInt64 &&& 63)) :: r, h)
    | _ => none)
  | .lshr => (match st with
    | .int y :: .long x :: r => some (True, nx, ls, .long (x >>> (y.toInt64 &&& 63)) :: r, h)
    | _ => none)
  | .lushr => (match st with
    | .int y :: .long x :: r => some (True, nx, ls, .long (x.toUInt64 >>> (y.toInt64.toUInt64 &&& Int64.toUInt64 63)).toInt64 :: r, h)
    | _ => none)
  | .i2l => (match st with
    | .int x :: r => some (True, nx, ls, .long x.toInt64 :: r, h)
    | _ => none)
  | .l2i => (match st with
    | .long x :: r => some (True, nx, ls, .int x.toInt32 :: r, h)
    | _ => none)
  | .i2b => (match st with
    | .int x :: r => some (True, nx, ls, .int x.toInt8.toInt32 :: r, h)
    | _ => none)
  | .dup => (match st with
    | .int x :: r => some (True, nx, ls, .int x :: .int x :: r, h)
    | .ref x :: r => some (True, nx, ls, .ref x :: .ref x :: r, h)
    | _ => none)
  | .pop => (match st with
    | .int _ :: r => some (True, nx, ls, r, h)
    | .ref _ :: r => some (True, nx, ls, r, h)
    | _ => none)
  | .dup_x1 => (match st with
    | .ref x :: .ref y :: r => some (True, nx, ls, .ref x :: .ref y :: .ref x :: r, h)
    | .int x :: .ref y :: r => some (True, nx, ls, .int x :: .ref y :: .int x :: r, h)
    | _ => none)
  | .dup2 => (match st with
    | .int x :: .ref y :: r => some (True, nx, ls, .int x :: .ref y :: .int x :: .ref y :: r, h)
    | .long x :: r => some (True, nx, ls, .long x :: .long x :: r, h)
    | _ => none)
  | .goto _ => some (True, a, ls, st, h)
  | .if_icmp c _ => am_i2 c nx a b k l ls st h
  | .ifCond c _ => am_i1 c nx a b k l ls st h
  | .if_acmp c _ => am_acmp c nx a b k l ls st h
  | .ifnull _ => (match st with
    | .null :: r => some (True, a, ls, r, h)
    | .ref _ :: r => some (True, nx, ls, r, h)
    | _ => none)
  | .ifnonnull _ => (match st with
    | .null :: r => some (True, nx, ls, r, h)
    | .ref _ :: r => some (True, a, ls, r, h)
    | _ => none)
  | .tableswitch _ lo hi offs => (match st with
    | .int x :: r => some (True, if x.toInt < lo ∨ hi < x.toInt then a else ((b : Int) + offs.getD (x.toInt - lo).toNat 0).toNat, ls, r, h)
    | _ => none)
  | .iaload => am_ald 0 0 nx a b k l ls st h
  | .baload => am_ald 1 2 nx a b k l ls st h
  | .laload => am_lald nx a b k l ls st h
  | .aaload => am_aald nx a b k l ls st h
  | .iastore => am_iast nx a b k l ls st h
  | .bastore => am_bast nx a b k l ls st h
  | .lastore => am_last nx a b k l ls st h
  | .aastore => am_aast nx a b k l ls st h
  | .arraylength => am_alen nx a b k l ls st h
  | .newarray _ => am_newa nx a b k l ls st h
  | .anewarray _ => am_newq nx a b k l ls st h
  | .new _ => some (True, nx, ls, .ref h.length :: st, h ++ [.inr (a, df a)])
  | .getfield _ => am_getf nx a b k l ls st h
  | .putfield _ => (match st with
    | v :: .ref r :: st' => (match am_get h r with
      | some (.inr (ci, fs)) => (match Nat.beq ci a with
        | true => (match am_get fs b with
          | some _ => some (am_fg (ft a b) v, nx, ls, st', am_set h r (.inr (a, am_set fs b v)))
          | none => none)
        | false => none)
      | _ => none)
    | _ => none)
  | .checkcast _ => am_chk nx a b k l ls st h
  | .invokevirtual _ => am_getc nx a b k l ls st h
  | .invokespecial _ => (match st with
    | .ref _ :: r => (match am_room r with
      | true => some (True, nx, ls, r, h)
      | false => none)
    | _ => none)
  | .invokestatic _ => (match b with
    | 6 => am_cpy nx a b k l ls st h
    | 7 => (match st with
      | .int y :: .int x :: r => (match am_room r with
        | true => some (True, nx, ls, .int (if x < y then y else x) :: r, h)
        | false => none)
      | _ => none)
    | 8 => (match st with
      | .int y :: .int x :: r => (match am_room r with
        | true => some (True, nx, ls, .int (if y < x then y else x) :: r, h)
        | false => none)
      | _ => none)
    | _ => none)
  | _ => none
/-- a call: whom, with what, what stays on the stack; kc: the callee's class -/
def am_call (kc ml : Nat → Nat) (a b c : Nat) (st : List Value) (h : List am_C) : Option (Nat × List Value × List Value) := match am_tk c st [] with
  | some (as, st') => (match b with
    | 3 => (match am_room st' && am_fits as (ml a) with
      | true => some (a, as, st')
      | false => none)
    | 0 => (match st' with
      | .ref r :: st2 => (match am_get h r with
        | some (.inr (ci, _)) => (match Nat.beq ci (kc a) && Nat.ble 6 r && am_room st2 && am_fits (.ref r :: as) (ml a) with
          | true => some (a, .ref r :: as, st2)
          | false => none)
        | _ => none)
      | _ => none)
    | _ => (match st' with
      | .ref r :: st2 => (match am_room st2 && am_fits (.ref r :: as) (ml a) with
        | true => some (a, .ref r :: as, st2)
        | false => none)
      | _ => none))
  | none => none
/-- an end: am_a is 1 where a boolean is answered -/
def am_ret (i : Jvm.ClassFile.Instr) (a : Nat) (st : List Value) : Option (Prop × Option Value) := match i with
  | .return_ => (match st with
    | [] => some (True, none)
    | _ => none)
  | .ireturn => (match st with
    | [.int v] => (match a with
      | 0 => some (True, some (.int v))
      | _ => some (v = 0 ∨ v = 1, some (.int v)))
    | _ => none)
  | .lreturn => (match st with
    | [.long v] => some (True, some (.long v))
    | _ => none)
  | .areturn => (match st with
    | [.ref v] => some (True, some (.ref v))
    | [.null] => some (True, some .null)
    | _ => none)
  | _ => none
end
section
/-! ===== the abstract machine's runs, and the judgement Go over them ===== -/
/-- n: how many steps and calls at most; the answer and the heap behind the method -/
noncomputable def am_run : Nat → Nat → Nat → List (Option Value) → List Value → List am_C → Option (Option Value × List am_C)
  | 0, _, _, _, _, _ => none
  | n + 1, m, pc, ls, st, h =>
    match am_E m pc with
    | none => none
    | some (i, nx, a, b, c, k, l) =>
      match am_kd i b with
      | 0 => (match am_s am_df am_ft i nx a b k l ls st h with
        | some (g, pc', ls', st', h') => @ite _ g (Classical.propDecidable g) (am_run n m pc' ls' st' h') none
        | none => none)
      | 1 => (match am_call am_kc am_ml a b c st h with
        | some (j, as, rest) => (match am_run n j 0 (am_ent (am_ml j) as) [] h with
          | some (r, h1) => am_run n m nx ls (r.toList ++ rest) h1
          | none => none)
        | none => none)
      | 2 => (match am_ret i a st with
        | some (g, r) => @ite _ g (Classical.propDecidable g) (some (r, h)) none
        | none => none)
      | _ => none
/-- from here the method comes to an end with Q -/
def Go (m pc : Nat) (ls : List (Option Value)) (st : List Value) (h : List am_C) (Q : Option Value → List am_C → Prop) : Prop :=
  ∃ (n : Nat) (r : Option Value) (h' : List am_C), am_run n m pc ls st h = some (r, h') ∧ Q r h'
/-- a whole call -/
def Do (m : Nat) (as : List Value) (h : List am_C) (Q : Option Value → List am_C → Prop) : Prop := Go m 0 (am_ent (am_ml m) as) [] h Q
theorem am_more : ∀ (n : Nat) {m pc : Nat} {ls : List (Option Value)} {st : List Value} {h : List am_C} {x : Option Value × List am_C}, am_run n m pc ls st h = some x → am_run (n + 1) m pc ls st h = some x := by
  intro n
  induction n with
  | zero => intro m pc ls st h x hx; simp [am_run] at hx
  | succ n ih =>
    intro m pc ls st h x hx
    rw [am_run] at hx
    rw [am_run]
    cases he : am_E m pc with
    | none => rw [he] at hx; cases hx
    | some e =>
      obtain ⟨i, nx, a, b, c, k, l⟩ := e
      rw [he] at hx
      dsimp only at hx ⊢
      match hk : am_kd i b with
      | 0 =>
        rw [hk] at hx
        try dsimp only at hx ⊢
        cases hs : am_s am_df am_ft i nx a b k l ls st h with
        | none => rw [hs] at hx; cases hx
        | some o =>
          obtain ⟨g, pc', ls', st', h'⟩ := o
          rw [hs] at hx
          try dsimp only at hx ⊢
          by_cases hg : g
          · rw [if_pos hg] at hx ⊢; exact ih hx
          · rw [if_neg hg] at hx; cases hx
      | 1 =>
        rw [hk] at hx
        try dsimp only at hx ⊢
        cases hs : am_call am_kc am_ml a b c st h with
        | none => rw [hs] at hx; cases hx
        | some o =>
          obtain ⟨j, as, rest⟩ := o
          rw [hs] at hx
          try dsimp only at hx ⊢
          cases hr : am_run n j 0 (am_ent (am_ml j) as) [] h with
          | none => rw [hr] at hx; cases hx
          | some o =>
            obtain ⟨r, h1⟩ := o
            rw [hr] at hx
            rw [ih hr]
            exact ih hx
      | 2 =>
        rw [hk] at hx
        try dsimp only at hx ⊢
        cases hs : am_ret i a st with
        | none => rw [hs] at hx; cases hx
        | some o =>
          obtain ⟨g, r⟩ := o
          rw [hs] at hx
          try dsimp only at hx ⊢
          by_cases hg : g
          · rw [if_pos hg] at hx ⊢; exact hx
          · rw [if_neg hg] at hx; cases hx
      | k + 3 => rw [hk] at hx; cases hx
theorem am_up {n k m pc : Nat} {ls : List (Option Value)} {st : List Value} {h : List am_C} {x : Option Value × List am_C} (hx : am_run n m pc ls st h = some x) (hk : n ≤ k) : am_run k m pc ls st h = some x := by
  induction hk with
  | refl => exact hx
  | step _ ih => exact am_more _ ih
theorem Go.mono {m pc : Nat} {ls : List (Option Value)} {st : List Value} {h : List am_C} {Q Q' : Option Value → List am_C → Prop} (k : Go m pc ls st h Q) (hQ : ∀ r h', Q r h' → Q' r h') : Go m pc ls st h Q' := by
  obtain ⟨n, r, h', h1, h2⟩ := k
  exact ⟨n, r, h', h1, hQ r h' h2⟩
/-- a step -/
theorem go_s {m pc pc' : Nat} {ls ls' : List (Option Value)} {st st' : List Value} {h h' : List am_C} {Q : Option Value → List am_C → Prop} {i : Jvm.ClassFile.Instr} {nx a b c : Nat} {k : Int32} {l : Int64} {g : Prop} (he : am_E m pc = some (i, nx, a, b, c, k, l)) (hk : am_kd i b = 0) (hs : am_s am_df am_ft i nx a b k l ls st h = some (g, pc', ls', st', h')) (hg : g) (kk : Go m pc' ls' st' h' Q) : Go m pc ls st h Q := by
  obtain ⟨n, r, h2, h3, h4⟩ := kk
  refine ⟨n + 1, r, h2, ?_, h4⟩
  rw [am_run]
  simp only [he, hk, hs]
  rw [if_pos hg]
  exact h3
/-- a call -/
theorem go_c {m pc j : Nat} {ls : List (Option Value)} {st as rest : List Value} {h : List am_C} {Q Q1 : Option Value → List am_C → Prop} {i : Jvm.ClassFile.Instr} {nx a b c : Nat} {k : Int32} {l : Int64} (he : am_E m pc = some (i, nx, a, b, c, k, l)) (hk : am_kd i b = 1) (hs : am_call am_kc am_ml a b c st h = some (j, as, rest)) (hc : Do j as h Q1) (kk : ∀ r h1, Q1 r h1 → Go m nx ls (r.toList ++ rest) h1 Q) : Go m pc ls st h Q := by
  obtain ⟨n1, r1, h1, h2, h3⟩ := hc
  obtain ⟨n2, r2, h4, h5, h6⟩ := kk r1 h1 h3
  refine ⟨n1 + n2 + 1, r2, h4, ?_, h6⟩
  rw [am_run]
  simp only [he, hk, hs]
  rw [am_up h2 (Nat.le_add_right n1 n2)]
  exact am_up h5 (Nat.le_add_left n2 n1)
/-- an end -/
theorem go_r {m pc : Nat} {ls : List (Option Value)} {st : List Value} {h : List am_C} {Q : Option Value → List am_C → Prop} {i : Jvm.ClassFile.Instr} {nx a b c : Nat} {k : Int32} {l : Int64} {g : Prop} {r : Option Value} (he : am_E m pc = some (i, nx, a, b, c, k, l)) (hk : am_kd i b = 2) (hs : am_ret i a st = some (g, r)) (hg : g) (kk : Q r h) : Go m pc ls st h Q := by
  refine ⟨1, r, h, ?_, kk⟩
  rw [am_run]
  simp only [he, hk, hs]
  rw [if_pos hg]
/-- a branch -/
theorem go_if {c : Prop} {d : Decidable c} {m a b : Nat} {ls : List (Option Value)} {st : List Value} {h : List am_C} {Q : Option Value → List am_C → Prop} (ka : c → Go m a ls st h Q) (kb : ¬ c → Go m b ls st h Q) : Go m (@ite _ c d a b) ls st h Q := by
  by_cases hc : c
  · rw [if_pos hc]; exact ka hc
  · rw [if_neg hc]; exact kb hc
end
section
/-! ===== the abstract heap as the machine's: ρ tells where a cell lies, τ the classes of the rows ===== -/
theorem am_get_eq {α : Type} (l : List α) (n : Nat) : am_get l n = l[n]? := by
  induction l generalizing n with
  | nil => simp [am_get]
  | cons x l ih => cases n with
    | zero => simp [am_get]
    | succ n => simp [am_get, ih]
theorem am_set_eq {α : Type} (l : List α) (n : Nat) (v : α) : am_set l n v = l.set n v := by
  induction l generalizing n with
  | nil => simp [am_set]
  | cons x l ih => cases n with
    | zero => simp [am_set]
    | succ n => simp [am_set, ih]
def am_t (ρ : Nat → Nat) (v : Value) : Value := match v with
  | .ref k => .ref (ρ k)
  | v => v
def am_sc (n : Nat) (v : Value) : Prop := match v with
  | .ref k => k < n
  | _ => True
def am_tc (ρ : Nat → Nat) (τ : Nat → ClassId) (c : am_C) : va_E := match c with
  | .inl (t, (n, .inr (.inr (.inr (.inr f))))) => .inl (τ t, (n, .inr (.inr (.inr (.inr fun i => (f i).map ρ)))))
  | .inl (t, (n, .inr (.inr (.inr (.inl f))))) => .inl (τ t, (n, .inr (.inr (.inr (.inl f)))))
  | .inl (t, (n, .inr (.inr (.inl f)))) => .inl (τ t, (n, .inr (.inr (.inl f))))
  | .inl (t, (n, .inr (.inl f))) => .inl (τ t, (n, .inr (.inl f)))
  | .inl (t, (n, .inl f)) => .inl (τ t, (n, .inl f))
  | .inr (ci, fs) => .inr (ci, fs.map (am_t ρ))
def am_scc (n : Nat) (c : am_C) : Prop := match c with
  | .inl (_, (_, .inr (.inr (.inr (.inr f))))) => ∀ i k, f i = some k → k < n
  | .inl (_, (_, .inr (.inr (.inr (.inl _))))) => True
  | .inl (_, (_, .inr (.inr (.inl _)))) => True
  | .inl (_, (_, .inr (.inl _))) => True
  | .inl (_, (_, .inl _)) => True
  | .inr (_, fs) => ∀ v ∈ fs, am_sc n v
theorem am_t_ext {ρ ρ' : Nat → Nat} {n : Nat} {v : Value} (h : ∀ k, k < n → ρ' k = ρ k) (hs : am_sc n v) : am_t ρ' v = am_t ρ v := by
  cases v <;> simp only [am_t]
  rw [h _ hs]
theorem am_sc_le {n n' : Nat} {v : Value} (h : n ≤ n') (hs : am_sc n v) : am_sc n' v := by
  cases v <;> simp only [am_sc] at hs ⊢
  exact Nat.lt_of_lt_of_le hs h
theorem am_scc_le {n n' : Nat} {c : am_C} (h : n ≤ n') (hs : am_scc n c) : am_scc n' c := by
  rcases c with ⟨t, m, f | f | f | f | f⟩ | ⟨ci, fs⟩
  · trivial
  · trivial
  · trivial
  · trivial
  · exact fun i k hk => Nat.lt_of_lt_of_le (hs i k hk) h
  · exact fun v hv => am_sc_le h (hs v hv)
theorem am_ts_ext {ρ ρ' : Nat → Nat} {n : Nat} (h : ∀ k, k < n → ρ' k = ρ k) : ∀ (l : List Value), (∀ v ∈ l, am_sc n v) → l.map (am_t ρ') = l.map (am_t ρ)
  | [], _ => rfl
  | v :: l, hs => by
    rw [List.map_cons, List.map_cons, am_t_ext h (hs v List.mem_cons_self), am_ts_ext h l fun v hv => hs v (List.mem_cons_of_mem _ hv)]
theorem am_tc_ext {ρ ρ' : Nat → Nat} {τ : Nat → ClassId} {n : Nat} {c : am_C} (h : ∀ k, k < n → ρ' k = ρ k) (hs : am_scc n c) : am_tc ρ' τ c = am_tc ρ τ c := by
  rcases c with ⟨t, m, f | f | f | f | f⟩ | ⟨ci, fs⟩
  · rfl
  · rfl
  · rfl
  · rfl
  · simp only [am_tc]
    have e : (fun i => (f i).map ρ') = (fun i => (f i).map ρ) := by
      funext i
      cases hi : f i with
      | none => rfl
      | some k => simp only [Option.map_some]; rw [h k (hs i k hi)]
    rw [e]
  · simp only [am_tc]
    rw [am_ts_ext h fs hs]
def am_w (ρ : Nat → Nat) (τ : Nat → ClassId) (h : List am_C) : va_W := (h.drop 6).mapIdx fun k c => (ρ (k + 6), am_tc ρ τ c)
theorem am_w_at (ρ : Nat → Nat) (τ : Nat → ClassId) (h : List am_C) (k : Nat) : (am_w ρ τ h)[k]? = (h[k + 6]?).map fun c => (ρ (k + 6), am_tc ρ τ c) := by
  unfold am_w
  rw [List.getElem?_mapIdx, List.getElem?_drop, Nat.add_comm 6 k]
theorem am_w_get {ρ : Nat → Nat} {τ : Nat → ClassId} {h : List am_C} {k : Nat} {c : am_C} (hk : 6 ≤ k) (hc : am_get h k = some c) : (am_w ρ τ h)[k - 6]? = some (ρ k, am_tc ρ τ c) := by
  rw [am_w_at, show k - 6 + 6 = k by omega, ← am_get_eq, hc]
  rfl
theorem am_w_set {ρ : Nat → Nat} {τ : Nat → ClassId} {h : List am_C} {k : Nat} {c : am_C} (hk : 6 ≤ k) : am_w ρ τ (am_set h k c) = (am_w ρ τ h).set (k - 6) (ρ k, am_tc ρ τ c) := by
  have hl : (am_w ρ τ h).length = h.length - 6 := by simp [am_w]
  apply List.ext_getElem?
  intro j
  rw [am_w_at, am_set_eq, List.getElem?_set, List.getElem?_set, am_w_at, hl]
  by_cases hj : k = j + 6
  · subst hj
    by_cases hh : j + 6 < h.length
    · have h2 : j < h.length - 6 := by omega
      simp [hh, h2]
    · have h2 : ¬ j < h.length - 6 := by omega
      simp [hh, h2]
  · have h2 : ¬ k - 6 = j := by omega
    simp [hj, h2]
theorem am_w_push {ρ : Nat → Nat} {τ : Nat → ClassId} {h : List am_C} {c : am_C} (hk : 6 ≤ h.length) : am_w ρ τ (h ++ [c]) = am_w ρ τ h ++ [(ρ h.length, am_tc ρ τ c)] := by
  unfold am_w
  rw [List.drop_append_of_le_length hk, List.mapIdx_concat]
  rw [List.length_drop, show h.length - 6 + 6 = h.length by omega]
theorem am_w_ext {ρ ρ' : Nat → Nat} {τ : Nat → ClassId} {h : List am_C} (hr : ∀ k, k < h.length → ρ' k = ρ k) (hs : ∀ c ∈ h, am_scc h.length c) : am_w ρ' τ h = am_w ρ τ h := by
  apply List.ext_getElem?
  intro j
  rw [am_w_at, am_w_at]
  cases hj : h[j + 6]? with
  | none => rfl
  | some c =>
    have hl : j + 6 < h.length := (List.getElem?_eq_some_iff.mp hj).1
    simp only [Option.map_some]
    rw [hr _ hl, am_tc_ext hr (hs c (List.mem_of_getElem? hj))]
/-! how much a heap holds -/
def am_z (c : am_C) : Nat := match c with
  | .inl (_, (n, _)) => n
  | .inr (_, fs) => fs.length
def am_sz (h : List am_C) : Nat := (h.map am_z).sum
theorem am_len_set {α : Type} (l : List α) (n : Nat) (v : α) : (am_set l n v).length = l.length := by rw [am_set_eq, List.length_set]
theorem am_sz_set {c c' : am_C} (e : am_z c' = am_z c) : ∀ (h : List am_C) (k : Nat), am_get h k = some c → am_sz (am_set h k c') = am_sz h
  | [], _, hk => by simp [am_get] at hk
  | x :: l, 0, hk => by
    simp only [am_get, Option.some.injEq] at hk
    subst hk
    simp [am_sz, am_set, e]
  | x :: l, k + 1, hk => by
    simp only [am_get] at hk
    have := am_sz_set e l k hk
    simp only [am_sz, am_set, List.map_cons, List.sum_cons] at this ⊢
    omega
theorem am_sz_push (h : List am_C) (c : am_C) : am_sz (h ++ [c]) = am_sz h + am_z c := by simp [am_sz]
def am_le (h h' : List am_C) : Prop := h.length ≤ h'.length ∧ am_sz h ≤ am_sz h'
theorem am_le.rf (h : List am_C) : am_le h h := ⟨Nat.le_refl _, Nat.le_refl _⟩
theorem am_le.tr {a b c : List am_C} (h1 : am_le a b) (h2 : am_le b c) : am_le a c := ⟨Nat.le_trans h1.1 h2.1, Nat.le_trans h1.2 h2.2⟩
theorem am_le.set {c c' : am_C} {h : List am_C} {k : Nat} (e : am_z c' = am_z c) (hk : am_get h k = some c) : am_le h (am_set h k c') := ⟨by rw [am_len_set]; exact Nat.le_refl _, by rw [am_sz_set e h k hk]; exact Nat.le_refl _⟩
theorem am_le.push (h : List am_C) (c : am_C) : am_le h (h ++ [c]) := ⟨by simp, by rw [am_sz_push]; omega⟩
set_option maxHeartbeats 4000000 in
theorem am_s_le {df : Nat → List Value} {ft : Nat → Nat → FieldType} {i : Jvm.ClassFile.Instr} {nx a b : Nat} {k : Int32} {l : Int64} {ls ls' : List (Option Value)} {st st' : List Value} {h h' : List am_C} {g : Prop} {pc' : Nat} (hs : am_s df ft i nx a b k l ls st h = some (g, pc', ls', st', h')) : am_le h h' := by
  cases i
  all_goals simp only [am_s, am_lda, am_ldi, am_ldl, am_sti, am_stl, am_sta, am_cst, am_i2, am_i1, am_acmp, am_ald, am_lald, am_aald, am_iast, am_bast, am_last, am_aast, am_alen, am_newa, am_newq, am_getf, am_getc, am_chk, am_cpy] at hs
  all_goals first
    | (cases hs; done)
    | (cases hs; exact am_le.rf _)
    | skip
  all_goals (repeat' split at hs)
  all_goals first
    | (cases hs; done)
    | (cases hs; exact am_le.rf _)
    | (cases hs; exact am_le.push _ _)
    | (cases hs; refine am_le.set ?_ (by assumption); simp [am_z, am_len_set]; done)
    | (cases hs; have e := Nat.eq_of_beq_eq_true (by assumption); subst e; refine am_le.set ?_ (by assumption); simp [am_z, am_len_set]; done)
    | skip
end
section
/-! ===== scopes, locals; what a step of each kind says of its start ===== -/
def am_ss (n : Nat) (st : List Value) : Prop := ∀ v ∈ st, am_sc n v
theorem am_ss.tl {n : Nat} {v : Value} {st : List Value} (h : am_ss n (v :: st)) : am_ss n st := fun w hw => h w (List.mem_cons_of_mem _ hw)
theorem am_ss.hd {n : Nat} {v : Value} {st : List Value} (h : am_ss n (v :: st)) : am_sc n v := h v List.mem_cons_self
theorem am_ss.cn {n : Nat} {v : Value} {st : List Value} (hv : am_sc n v) (h : am_ss n st) : am_ss n (v :: st) := List.forall_mem_cons.mpr ⟨hv, h⟩
theorem am_ss.le {n n' : Nat} {st : List Value} (e : n ≤ n') (h : am_ss n st) : am_ss n' st := fun v hv => am_sc_le e (h v hv)
theorem am_t_cat (ρ : Nat → Nat) (v : Value) : (am_t ρ v).category = v.category := by cases v <;> rfl
def am_lok (ρ : Nat → Nat) (n mL : Nat) (ls : List (Option Value)) (lsC : Array Slot) : Prop := lsC.size = mL ∧ lv_wf lsC ∧ ∀ i v, am_get ls i = some (some v) → am_sc n v ∧ lsC[i]? = some (.val (am_t ρ v))
def am_ll (ρ : Nat → Nat) : Nat → List (Option Value) → List (Nat × Value)
  | _, [] => []
  | i, some v :: l => (i, am_t ρ v) :: am_ll ρ (i + 1) l
  | i, none :: l => am_ll ρ (i + 1) l
theorem am_ll_in {ρ : Nat → Nat} : ∀ (l : List (Option Value)) (i j : Nat) (v : Value), am_get l j = some (some v) → (i + j, am_t ρ v) ∈ am_ll ρ i l
  | [], i, j, v, h => by simp [am_get] at h
  | x :: l, i, 0, v, h => by
    simp only [am_get, Option.some.injEq] at h
    subst h
    simp [am_ll]
  | x :: l, i, j + 1, v, h => by
    simp only [am_get] at h
    have := am_ll_in (ρ := ρ) l (i + 1) j v h
    rw [show i + (j + 1) = i + 1 + j by omega]
    cases x with
    | none => exact this
    | some x => exact List.mem_cons_of_mem _ this
theorem am_ll_out {ρ : Nat → Nat} : ∀ (l : List (Option Value)) (i : Nat) (q : Nat × Value), q ∈ am_ll ρ i l → ∃ j v, q = (i + j, am_t ρ v) ∧ am_get l j = some (some v)
  | [], i, q, h => by simp [am_ll] at h
  | none :: l, i, q, h => by
    obtain ⟨j, v, e, hj⟩ := am_ll_out l (i + 1) q h
    exact ⟨j + 1, v, by rw [e, show i + (j + 1) = i + 1 + j by omega], hj⟩
  | some x :: l, i, q, h => by
    rcases List.mem_cons.mp h with rfl | h
    · exact ⟨0, x, rfl, rfl⟩
    · obtain ⟨j, v, e, hj⟩ := am_ll_out l (i + 1) q h
      exact ⟨j + 1, v, by rw [e, show i + (j + 1) = i + 1 + j by omega], hj⟩
theorem am_lok.has {ρ : Nat → Nat} {n mL : Nat} {ls : List (Option Value)} {lsC : Array Slot} (h : am_lok ρ n mL ls lsC) : lv_has lsC mL (am_ll ρ 0 ls) := by
  refine ⟨h.1, h.2.1, fun q hq => ?_⟩
  obtain ⟨j, v, rfl, hj⟩ := am_ll_out _ _ _ hq
  rw [Nat.zero_add]
  exact (h.2.2 j v hj).2
theorem am_kill_some {x : Option Value} {w : Value} (h : am_kill x = some w) : x = some w ∧ ¬ w.category = 2 := by
  cases x with
  | none => cases h
  | some v => cases v <;> simp only [am_kill] at h <;> cases h <;> exact ⟨rfl, by simp [Value.category]⟩
theorem am_st1_get : ∀ (l : List (Option Value)) (a : Nat) (v : Value) (i : Nat) (w : Value), am_get (am_st1 l a v) i = some (some w) → (i = a ∧ w = v) ∨ (i ≠ a ∧ am_get l i = some (some w) ∧ (i + 1 = a → ¬ w.category = 2))
  | [], a, v, i, w, h => by simp [am_st1, am_get] at h
  | x :: l, 0, v, 0, w, h => by
    simp only [am_st1, am_get, Option.some.injEq] at h
    exact Or.inl ⟨rfl, h.symm⟩
  | x :: l, 0, v, i + 1, w, h => Or.inr ⟨by omega, h, fun e => by omega⟩
  | x :: l, 1, v, 0, w, h => by
    simp only [am_st1, am_get, Option.some.injEq] at h
    obtain ⟨h1, h2⟩ := am_kill_some h
    exact Or.inr ⟨by omega, by rw [h1]; rfl, fun _ => h2⟩
  | x :: l, a + 2, v, 0, w, h => by
    simp only [am_st1, am_get, Option.some.injEq] at h
    exact Or.inr ⟨by omega, by rw [h]; rfl, fun e => by omega⟩
  | x :: l, a + 1, v, i + 1, w, h => by
    simp only [am_st1, am_get] at h
    rcases am_st1_get l a v i w h with ⟨h1, h2⟩ | ⟨h1, h2, h3⟩
    · exact Or.inl ⟨by omega, h2⟩
    · exact Or.inr ⟨by omega, h2, fun e => h3 (by omega)⟩
theorem am_st2_get : ∀ (l : List (Option Value)) (a : Nat) (v : Value) (i : Nat) (w : Value), am_get (am_st2 l a v) i = some (some w) → (i = a ∧ w = v) ∨ (i ≠ a ∧ i ≠ a + 1 ∧ am_get l i = some (some w) ∧ (i + 1 = a → ¬ w.category = 2))
  | [], a, v, i, w, h => by simp [am_st2, am_get] at h
  | x :: l, 0, v, 0, w, h => by
    simp only [am_st2, am_get, Option.some.injEq] at h
    exact Or.inl ⟨rfl, h.symm⟩
  | x :: [], 0, v, i + 1, w, h => by simp [am_st2, am_get] at h
  | x :: y :: l, 0, v, 1, w, h => by simp [am_st2, am_get] at h
  | x :: y :: l, 0, v, i + 2, w, h => Or.inr ⟨by omega, by omega, h, fun e => by omega⟩
  | x :: l, 1, v, 0, w, h => by
    simp only [am_st2, am_get, Option.some.injEq] at h
    obtain ⟨h1, h2⟩ := am_kill_some h
    exact Or.inr ⟨by omega, by omega, by rw [h1]; rfl, fun _ => h2⟩
  | x :: l, a + 2, v, 0, w, h => by
    simp only [am_st2, am_get, Option.some.injEq] at h
    exact Or.inr ⟨by omega, by omega, by rw [h]; rfl, fun e => by omega⟩
  | x :: l, a + 1, v, i + 1, w, h => by
    simp only [am_st2, am_get] at h
    rcases am_st2_get l a v i w h with ⟨h1, h2⟩ | ⟨h1, h1', h2, h3⟩
    · exact Or.inl ⟨by omega, h2⟩
    · exact Or.inr ⟨by omega, by omega, h2, fun e => h3 (by omega)⟩
theorem am_lok.s1 {ρ : Nat → Nat} {n mL a : Nat} {v : Value} {ls : List (Option Value)} {lsC lsC' : Array Slot} (h : am_lok ρ n mL ls lsC) (hv : am_sc n v) (h' : lv_has lsC' mL ((a, am_t ρ v) :: (am_ll ρ 0 ls).filter (fun q => !(q.1 == a) && !(q.1 + 1 == a && q.2.category == 2)))) : am_lok ρ n mL (am_st1 ls a v) lsC' := by
  refine ⟨h'.1, h'.2.1, fun i w hw => ?_⟩
  rcases am_st1_get _ _ _ _ _ hw with ⟨rfl, rfl⟩ | ⟨h1, h2, h3⟩
  · exact ⟨hv, h'.2.2 _ List.mem_cons_self⟩
  · refine ⟨(h.2.2 i w h2).1, h'.2.2 (i, am_t ρ w) (List.mem_cons_of_mem _ (List.mem_filter.mpr ⟨?_, ?_⟩))⟩
    · have := am_ll_in (ρ := ρ) ls 0 i w h2
      rwa [Nat.zero_add] at this
    · by_cases e : i + 1 = a
      · simp [h1, e, am_t_cat, h3 e]
      · simp [h1, e]
theorem am_lok.s2 {ρ : Nat → Nat} {n mL a : Nat} {v : Value} {ls : List (Option Value)} {lsC lsC' : Array Slot} (h : am_lok ρ n mL ls lsC) (hv : am_sc n v) (h' : lv_has lsC' mL ((a, am_t ρ v) :: (am_ll ρ 0 ls).filter (fun q => !(q.1 == a) && (!(q.1 == a + 1) && !(q.1 + 1 == a && q.2.category == 2))))) : am_lok ρ n mL (am_st2 ls a v) lsC' := by
  refine ⟨h'.1, h'.2.1, fun i w hw => ?_⟩
  rcases am_st2_get _ _ _ _ _ hw with ⟨rfl, rfl⟩ | ⟨h1, h1', h2, h3⟩
  · exact ⟨hv, h'.2.2 _ List.mem_cons_self⟩
  · refine ⟨(h.2.2 i w h2).1, h'.2.2 (i, am_t ρ w) (List.mem_cons_of_mem _ (List.mem_filter.mpr ⟨?_, ?_⟩))⟩
    · have := am_ll_in (ρ := ρ) ls 0 i w h2
      rwa [Nat.zero_add] at this
    · by_cases e : i + 1 = a
      · simp [h1, h1', e, am_t_cat, h3 e]
      · simp [h1, h1', e]
/-! the cells that are there from the start -/
def am_dm (L : Nat) (xs : Nat → Int32) (h : List am_C) : Prop := 6 ≤ h.length ∧ am_get h 0 = some (.inl (4, (0, .inr (.inr (.inr (.inr fun _ => none)))))) ∧ (∀ k, 1 ≤ k → k ≤ 4 → am_get h k = some (.inr (99, []))) ∧ am_get h 5 = some (.inl (0, (L, .inl xs)))
theorem am_dm.low {L : Nat} {xs : Nat → Int32} {h : List am_C} (hd : am_dm L xs h) {r : Nat} {c : am_C} (hr : r < 6) (hc : am_get h r = some c) : (r = 0 ∧ c = .inl (4, (0, .inr (.inr (.inr (.inr fun _ => none)))))) ∨ (1 ≤ r ∧ r ≤ 4 ∧ c = .inr (99, [])) ∨ (r = 5 ∧ c = .inl (0, (L, .inl xs))) := by
  by_cases h0 : r = 0
  · subst h0
    exact Or.inl ⟨rfl, Option.some.inj (hc.symm.trans hd.2.1)⟩
  · by_cases h5 : r = 5
    · subst h5
      exact Or.inr (Or.inr ⟨rfl, Option.some.inj (hc.symm.trans hd.2.2.2)⟩)
    · exact Or.inr (Or.inl ⟨by omega, by omega, Option.some.inj (hc.symm.trans (hd.2.2.1 r (by omega) (by omega)))⟩)
theorem am_get_set_ne {α : Type} (l : List α) {r k : Nat} (v : α) (h : r ≠ k) : am_get (am_set l r v) k = am_get l k := by
  rw [am_get_eq, am_get_eq, am_set_eq, List.getElem?_set_ne h]
theorem am_get_push {α : Type} (l : List α) {k : Nat} (v : α) (h : k < l.length) : am_get (l ++ [v]) k = am_get l k := by
  rw [am_get_eq, am_get_eq, List.getElem?_append_left h]
theorem am_get_lt {α : Type} {l : List α} {k : Nat} {v : α} (h : am_get l k = some v) : k < l.length := by
  rw [am_get_eq] at h
  exact (List.getElem?_eq_some_iff.mp h).1
theorem am_dm.set {L : Nat} {xs : Nat → Int32} {h : List am_C} (hd : am_dm L xs h) {r : Nat} (c : am_C) (hr : 6 ≤ r) : am_dm L xs (am_set h r c) :=
  ⟨by rw [am_len_set]; exact hd.1, by rw [am_get_set_ne _ _ (by omega)]; exact hd.2.1, fun k h1 h2 => by rw [am_get_set_ne _ _ (by omega)]; exact hd.2.2.1 k h1 h2, by rw [am_get_set_ne _ _ (by omega)]; exact hd.2.2.2⟩
theorem am_dm.push {L : Nat} {xs : Nat → Int32} {h : List am_C} (hd : am_dm L xs h) (c : am_C) : am_dm L xs (h ++ [c]) := by
  have h6 := hd.1
  exact ⟨by simp; omega, by rw [am_get_push _ _ (by omega)]; exact hd.2.1, fun k h1 h2 => by rw [am_get_push _ _ (by omega)]; exact hd.2.2.1 k h1 h2, by rw [am_get_push _ _ (by omega)]; exact hd.2.2.2⟩
theorem am_mem_get {α : Type} {l : List α} {k : Nat} {v : α} (h : am_get l k = some v) : v ∈ l := by
  rw [am_get_eq] at h
  exact List.mem_of_getElem? h
end
section
/-! ===== a step of the abstract machine is one of the machine ===== -/
def am_fix (p : Program) (R : Room) (s : State) (mm : MethodId) (args : Array Value) (meth : Method) (c : Code) (m : Nat) : Prop :=
  p.tables.exec = Jvm.exec ∧ c.code = am_bc m ∧ c.maxLocals = am_ml m ∧ s.vm.findClass (am_on (am_ow m)) = some mm.cls ∧ (∀ w ∈ am_T, w.before args s = true) ∧ am_D m ≤ R.frames ∧ am_Lo m ≤ R.locals ∧ ((am_y m).name = "<init>" → meth.name = "<init>")
def am_tys (τ : Nat → ClassId) : List (ClassId × FieldType) := [(τ 0, .int), (τ 1, .byte), (τ 2, .boolean), (τ 3, .long), (τ 4, .object "java/lang/Object"), (τ 5, .object "TextIndices$Language")]
/-- what was there before -/
def am_ext (ρ : Nat → Nat) (L : Nat) (xs : Nat → Int32) (A : Nat → Prop) (U : State) (H : Heap) : Prop :=
  (∀ x C n d, am_xs x = some (C, n, d) → va_Z C n d (.ref (ρ x)) A U H) ∧ (∃ f, va_T (.object "java/lang/Object") (ρ 0) 0 f A U H) ∧ (∀ i j, 1 ≤ i → i ≤ 3 → 1 ≤ j → j ≤ 3 → ρ i = ρ j → i = j) ∧ va_Mi "[Ljava/lang/Object;" (ρ 4) U ∧ (va_X (ρ 5) L xs U H ∧ ρ 5 < H.size ∧ ¬ A (ρ 5)) ∧ (∀ w ∈ am_NW, va_Nw w U) ∧ va_Dc U ∧ va_AO "java/lang/Object" U ∧ va_AO "TextIndices$Language" U
def am_inv (D : va_G) (τ : Nat → ClassId) (A : Nat → Prop) (s : State) (L : Nat) (xs : Nat → Int32) (n0 : Nat) (ρ0 : Nat → Nat) (mL : Nat) (ρ : Nat → Nat) (ls : List (Option Value)) (st : List Value) (h : List am_C) (H : Heap) (locs : List Loc) (lsC : Array Slot) : Prop :=
  va_P D am_cl (am_w ρ τ h) H ∧ va_D A (am_w ρ τ h) ∧ va_S A s.heap H locs ∧ am_lok ρ h.length mL ls lsC ∧ am_ss h.length st ∧ (∀ c ∈ h, am_scc h.length c) ∧ am_dm L xs h ∧ n0 ≤ h.length ∧ ∀ k, k < n0 → ρ k = ρ0 k
theorem am_fg_ok {ρ : Nat → Nat} {ty : FieldType} {v : Value} (h : am_fg ty v) : narrow ty (am_t ρ v) = am_t ρ v ∧ fits ty (am_t ρ v) = true := by
  cases ty <;> cases v <;> simp only [am_fg] at h
  all_goals first
    | exact absurd h id
    | (refine ⟨rfl, rfl⟩; done)
    | (rcases h with rfl | rfl)
  · exact (⟨by decide +kernel, by decide +kernel⟩ : narrow .boolean (.int 0) = .int 0 ∧ fits .boolean (.int 0) = true)
  · exact (⟨by decide +kernel, by decide +kernel⟩ : narrow .boolean (.int 1) = .int 1 ∧ fits .boolean (.int 1) = true)
theorem am_rf_sc {n : Nat} {f : Nat → Option Nat} (h : ∀ i k, f i = some k → k < n) (i : Nat) : am_sc n (va_rf (f i)) := by
  cases e : f i with
  | none => trivial
  | some k => exact h i k e
theorem am_t_rf (ρ : Nat → Nat) (o : Option Nat) : am_t ρ (va_rf o) = va_rf (o.map ρ) := by cases o <;> rfl
theorem am_hh_set {h : List am_C} {r : Nat} {c1 : am_C} (hh : ∀ c ∈ h, am_scc h.length c) (h1 : am_scc h.length c1) : ∀ c ∈ am_set h r c1, am_scc (am_set h r c1).length c := by
  intro c hc
  rw [am_len_set]
  rw [am_set_eq] at hc
  rcases List.mem_or_eq_of_mem_set hc with hc | rfl
  · exact hh c hc
  · exact h1
theorem am_hh_push {h : List am_C} {c1 : am_C} (hh : ∀ c ∈ h, am_scc h.length c) (h1 : am_scc (h.length + 1) c1) : ∀ c ∈ h ++ [c1], am_scc (h ++ [c1]).length c := by
  intro c hc
  rw [List.length_append, List.length_singleton]
  rcases List.mem_append.mp hc with hc | hc
  · exact am_scc_le (Nat.le_succ _) (hh c hc)
  · rw [List.mem_singleton.mp hc]; exact h1
theorem am_lok.ext {ρ ρ' : Nat → Nat} {n n' mL : Nat} {ls : List (Option Value)} {lsC : Array Slot} (h : am_lok ρ n mL ls lsC) (e : n ≤ n') (hr : ∀ k, k < n → ρ' k = ρ k) : am_lok ρ' n' mL ls lsC :=
  ⟨h.1, h.2.1, fun i v hv => ⟨am_sc_le e (h.2.2 i v hv).1, by rw [am_t_ext hr (h.2.2 i v hv).1]; exact (h.2.2 i v hv).2⟩⟩
theorem am_xs_lt {x : Nat} {q : String × String × String} (h : am_xs x = some q) : x < 4 := by
  rcases Nat.lt_or_ge x 4 with hx | hx
  · exact hx
  · obtain ⟨y, rfl⟩ : ∃ y, x = y + 4 := ⟨x - 4, by omega⟩
    simp [am_xs] at h
section SIM
variable {p : Program} {l : Launch} {e : Env} {R : Room} {s : State} {mm : MethodId} {args : Array Value} {below : List Frame} {meth : Method} {c : Code} {H : Heap} {locs : List Loc} {cells slots : Nat} {Q : State → Prop}
variable {m pc : Nat} {nx a b cc : Nat} {k : Int32} {lv : Int64} {ls ls' : List (Option Value)} {st st' : List Value} {h h' : List am_C} {g : Prop} {pc' : Nat} {D : va_G} {τ : Nat → ClassId} {A : Nat → Prop} {L : Nat} {xs : Nat → Int32} {n0 : Nat} {ρ0 ρ : Nat → Nat} {lsC : Array Slot}
/-- what is to be shown of an instruction -/
def am_STEP (p : Program) (l : Launch) (e : Env) (R : Room) (s : State) (mm : MethodId) (args : Array Value) (below : List Frame) (meth : Method) (c : Code) (Q : State → Prop) (m : Nat) (D : va_G) (τ : Nat → ClassId) (A : Nat → Prop) (L : Nat) (xs : Nat → Int32) (n0 : Nat) (ρ0 : Nat → Nat) (i : Jvm.ClassFile.Instr) : Prop :=
  ∀ {H : Heap} {locs : List Loc} {cells slots pc nx a b cc : Nat} {k : Int32} {lv : Int64} {ls ls' : List (Option Value)} {st st' : List Value} {h h' : List am_C} {g : Prop} {pc' : Nat} {ρ : Nat → Nat} {lsC : Array Slot},
    am_okb m pc (i, nx, a, b, cc, k, lv) = true → am_kd i b = 0 → am_s am_df am_ft i nx a b k lv ls st h = some (g, pc', ls', st', h') → g →
    am_inv D τ A s L xs n0 ρ0 (am_ml m) ρ ls st h H locs lsC → cells + (h'.length - h.length) ≤ R.cells → slots + (am_sz h' - am_sz h) ≤ R.slots →
    (∀ ρ' H' locs' lsC', am_inv D τ A s L xs n0 ρ0 (am_ml m) ρ' ls' st' h' H' locs' lsC' → W p l e R s mm args below meth c H' locs' (cells + (h'.length - h.length)) (slots + (am_sz h' - am_sz h)) Q (F0 mm pc' lsC' (st'.map (am_t ρ')))) →
    W p l e R s mm args below meth c H locs cells slots Q (F0 mm pc lsC (st.map (am_t ρ)))
/-- going on with the same heap -/
theorem am_kp (I : am_inv D τ A s L xs n0 ρ0 (am_ml m) ρ ls st h H locs lsC)
    (kk : ∀ ρ' H' locs' lsC', am_inv D τ A s L xs n0 ρ0 (am_ml m) ρ' ls' st' h H' locs' lsC' → W p l e R s mm args below meth c H' locs' (cells + (h.length - h.length)) (slots + (am_sz h - am_sz h)) Q (F0 mm pc' lsC' (st'.map (am_t ρ')))) {lsC' : Array Slot}
    (q1 : am_lok ρ h.length (am_ml m) ls' lsC') (q2 : am_ss h.length st') : W p l e R s mm args below meth c H locs cells slots Q (F0 mm pc' lsC' (st'.map (am_t ρ))) := by
  obtain ⟨hP, hD, hS, hl, hst, hh, hdm, hn0, hρ⟩ := I
  have := kk ρ H locs lsC' ⟨hP, hD, hS, q1, q2, hh, hdm, hn0, hρ⟩
  simpa only [Nat.sub_self, Nat.add_zero] using this
/-- going on with one cell changed -/
theorem am_ks {r : Nat} {c0 c1 : am_C} (I : am_inv D τ A s L xs n0 ρ0 (am_ml m) ρ ls st h H locs lsC) (hr : 6 ≤ r) (hc0 : am_get h r = some c0)
    (kk : ∀ ρ' H' locs' lsC', am_inv D τ A s L xs n0 ρ0 (am_ml m) ρ' ls st' (am_set h r c1) H' locs' lsC' → W p l e R s mm args below meth c H' locs' (cells + ((am_set h r c1).length - h.length)) (slots + (am_sz (am_set h r c1) - am_sz h)) Q (F0 mm pc' lsC' (st'.map (am_t ρ')))) (hz : am_z c1 = am_z c0) (hsc : am_scc h.length c1)
    (q2 : am_ss h.length st') {H1 : Heap} {locs1 : List Loc} (hP1 : va_P D am_cl ((am_w ρ τ h).set (r - 6) (ρ r, am_tc ρ τ c1)) H1) (hD1 : va_D A ((am_w ρ τ h).set (r - 6) (ρ r, am_tc ρ τ c1))) (hS1 : va_S A s.heap H1 locs1) :
    W p l e R s mm args below meth c H1 locs1 cells slots Q (F0 mm pc' lsC (st'.map (am_t ρ))) := by
  obtain ⟨hP, hD, hS, hl, hst, hh, hdm, hn0, hρ⟩ := I
  have := kk ρ H1 locs1 lsC ⟨by rw [am_w_set hr]; exact hP1, by rw [am_w_set hr]; exact hD1, hS1, by rw [am_len_set]; exact hl, by rw [am_len_set]; exact q2, am_hh_set hh hsc, hdm.set _ hr, by rw [am_len_set]; exact hn0, hρ⟩
  simpa only [am_len_set, am_sz_set hz h r hc0, Nat.sub_self, Nat.add_zero] using this
/-- going on with one cell more -/
theorem am_kn {c1 : am_C} (I : am_inv D τ A s L xs n0 ρ0 (am_ml m) ρ ls st h H locs lsC) (hsc : am_scc (h.length + 1) c1)
    (kk : ∀ ρ' H' locs' lsC', am_inv D τ A s L xs n0 ρ0 (am_ml m) ρ' ls (.ref h.length :: st') (h ++ [c1]) H' locs' lsC' → W p l e R s mm args below meth c H' locs' (cells + ((h ++ [c1]).length - h.length)) (slots + (am_sz (h ++ [c1]) - am_sz h)) Q (F0 mm pc' lsC' ((.ref h.length :: st').map (am_t ρ'))))
    (q2 : am_ss h.length st') {q : Nat} {H1 : Heap} {e1 : va_E} (he : am_tc (va_up ρ h.length q) τ c1 = e1) (hP1 : va_P D am_cl (am_w ρ τ h ++ [(q, e1)]) H1) (hD1 : va_D A (am_w ρ τ h ++ [(q, e1)])) (hS1 : va_S A s.heap H1 locs) :
    W p l e R s mm args below meth c H1 locs (cells + 1) (slots + am_z c1) Q (F0 mm pc' lsC (.ref q :: st'.map (am_t ρ))) := by
  obtain ⟨hP, hD, hS, hl, hst, hh, hdm, hn0, hρ⟩ := I
  have hr : ∀ j, j < h.length → va_up ρ h.length q j = ρ j := fun j hj => va_up_ne ρ q (by omega)
  have hw : am_w (va_up ρ h.length q) τ (h ++ [c1]) = am_w ρ τ h ++ [(q, e1)] := by
    rw [am_w_push hdm.1, am_w_ext hr hh, he, va_up_self]
  have := kk (va_up ρ h.length q) H1 locs lsC ⟨by rw [hw]; exact hP1, by rw [hw]; exact hD1, hS1, by rw [List.length_append]; exact hl.ext (Nat.le_add_right _ _) hr, by
    rw [List.length_append]; exact am_ss.cn (Nat.lt_succ_self _) (q2.le (Nat.le_add_right _ _)), am_hh_push hh hsc, hdm.push _, by rw [List.length_append]; exact Nat.le_trans hn0 (Nat.le_add_right _ _), fun j hj => by rw [hr j (Nat.lt_of_lt_of_le hj hn0)]; exact hρ j hj⟩
  have e2 : (h ++ [c1]).length - h.length = 1 := by simp
  have e3 : am_sz (h ++ [c1]) - am_sz h = am_z c1 := by rw [am_sz_push]; omega
  rw [e2, e3] at this
  have e4 : (Value.ref h.length :: st').map (am_t (va_up ρ h.length q)) = .ref q :: st'.map (am_t ρ) := by
    rw [List.map_cons, am_ts_ext hr st' q2]
    show Value.ref (va_up ρ h.length q h.length) :: _ = _
    rw [va_up_self]
  rw [e4] at this
  exact this
theorem am_st_iadd (F : am_fix p R s mm args meth c m) (hA : ∀ q, s.heap.size ≤ q → A q) (hX : am_ext ρ0 L xs A s s.heap) (hK : va_K D am_cl (am_tys τ) s) (h6 : 6 ≤ n0) : am_STEP p l e R s mm args below meth c Q m D τ A L xs n0 ρ0 (.iadd) := by
  intro H locs cells slots pc nx a b cc k lv ls ls' st st' h h' g pc' ρ lsC hok hkd hs hg I hcel hslo kk
  obtain ⟨hx, hb, hml, hown, hts, hfr, hlo, hin⟩ := F
  obtain ⟨hP, hD, hS, hl, hst, hh, hdm, hn0, hρ⟩ := id I
  simp only [am_okb, am_okb1, Bool.and_eq_true, decide_eq_true_eq, and_true] at hok
  try simp only [am_lni] at hok
  obtain ⟨hd, rfl⟩ := hok
  simp only [am_s] at hs
  split at hs
  · cases hs
    exact lv_iadd hx hb hd (am_kp I kk hl (am_ss.cn trivial hst.tl.tl))
  · cases hs
theorem am_st_isub (F : am_fix p R s mm args meth c m) (hA : ∀ q, s.heap.size ≤ q → A q) (hX : am_ext ρ0 L xs A s s.heap) (hK : va_K D am_cl (am_tys τ) s) (h6 : 6 ≤ n0) : am_STEP p l e R s mm args below meth c Q m D τ A L xs n0 ρ0 (.isub) := by
  intro H locs cells slots pc nx a b cc k lv ls ls' st st' h h' g pc' ρ lsC hok hkd hs hg I hcel hslo kk
  obtain ⟨hx, hb, hml, hown, hts, hfr, hlo, hin⟩ := F
  obtain ⟨hP, hD, hS, hl, hst, hh, hdm, hn0, hρ⟩ := id I
  simp only [am_okb, am_okb1, Bool.and_eq_true, decide_eq_true_eq, and_true] at hok
  try simp only [am_lni] at hok
  obtain ⟨hd, rfl⟩ := hok
  simp only [am_s] at hs
  split at hs
  · cases hs
    exact lv_isub hx hb hd (am_kp I kk hl (am_ss.cn trivial hst.tl.tl))
  · cases hs
theorem am_st_imul (F : am_fix p R s mm args meth c m) (hA : ∀ q, s.heap.size ≤ q → A q) (hX : am_ext ρ0 L xs A s s.heap) (hK : va_K D am_cl (am_tys τ) s) (h6 : 6 ≤ n0) : am_STEP p l e R s mm args below meth c Q m D τ A L xs n0 ρ0 (.imul) := by
  intro H locs cells slots pc nx a b cc k lv ls ls' st st' h h' g pc' ρ lsC hok hkd hs hg I hcel hslo kk
  obtain ⟨hx, hb, hml, hown, hts, hfr, hlo, hin⟩ := F
  obtain ⟨hP, hD, hS, hl, hst, hh, hdm, hn0, hρ⟩ := id I
  simp only [am_okb, am_okb1, Bool.and_eq_true, decide_eq_true_eq, and_true] at hok
  try simp only [am_lni] at hok
  obtain ⟨hd, rfl⟩ := hok
  simp only [am_s] at hs
  split at hs
  · cases hs
    exact lv_imul hx hb hd (am_kp I kk hl (am_ss.cn trivial hst.tl.tl))
  · cases hs
theorem am_st_iand (F : am_fix p R s mm args meth c m) (hA : ∀ q, s.heap.size ≤ q → A q) (hX : am_ext ρ0 L xs A s s.heap) (hK : va_K D am_cl (am_tys τ) s) (h6 : 6 ≤ n0) : am_STEP p l e R s mm args below meth c Q m D τ A L xs n0 ρ0 (.iand) := by
  intro H locs cells slots pc nx a b cc k lv ls ls' st st' h h' g pc' ρ lsC hok hkd hs hg I hcel hslo kk
  obtain ⟨hx, hb, hml, hown, hts, hfr, hlo, hin⟩ := F
  obtain ⟨hP, hD, hS, hl, hst, hh, hdm, hn0, hρ⟩ := id I
  simp only [am_okb, am_okb1, Bool.and_eq_true, decide_eq_true_eq, and_true] at hok
  try simp only [am_lni] at hok
  obtain ⟨hd, rfl⟩ := hok
  simp only [am_s] at hs
  split at hs
  · cases hs
    exact lv_iand hx hb hd (am_kp I kk hl (am_ss.cn trivial hst.tl.tl))
  · cases hs
theorem am_st_ishr (F : am_fix p R s mm args meth c m) (hA : ∀ q, s.heap.size ≤ q → A q) (hX : am_ext ρ0 L xs A s s.heap) (hK : va_K D am_cl (am_tys τ) s) (h6 : 6 ≤ n0) : am_STEP p l e R s mm args below meth c Q m D τ A L xs n0 ρ0 (.ishr) := by
  intro H locs cells slots pc nx a b cc k lv ls ls' st st' h h' g pc' ρ lsC hok hkd hs hg I hcel hslo kk
  obtain ⟨hx, hb, hml, hown, hts, hfr, hlo, hin⟩ := F
  obtain ⟨hP, hD, hS, hl, hst, hh, hdm, hn0, hρ⟩ := id I
  simp only [am_okb, am_okb1, Bool.and_eq_true, decide_eq_true_eq, and_true] at hok
  try simp only [am_lni] at hok
  obtain ⟨hd, rfl⟩ := hok
  simp only [am_s] at hs
  split at hs
  · cases hs
    exact lv_ishr hx hb hd (am_kp I kk hl (am_ss.cn trivial hst.tl.tl))
  · cases hs
theorem am_st_ladd (F : am_fix p R s mm args meth c m) (hA : ∀ q, s.heap.size ≤ q → A q) (hX : am_ext ρ0 L xs A s s.heap) (hK : va_K D am_cl (am_tys τ) s) (h6 : 6 ≤ n0) : am_STEP p l e R s mm args below meth c Q m D τ A L xs n0 ρ0 (.ladd) := by
  intro H locs cells slots pc nx a b cc k lv ls ls' st st' h h' g pc' ρ lsC hok hkd hs hg I hcel hslo kk
  obtain ⟨hx, hb, hml, hown, hts, hfr, hlo, hin⟩ := F
  obtain ⟨hP, hD, hS, hl, hst, hh, hdm, hn0, hρ⟩ := id I
  simp only [am_okb, am_okb1, Bool.and_eq_true, decide_eq_true_eq, and_true] at hok
  try simp only [am_lni] at hok
  obtain ⟨hd, rfl⟩ := hok
  simp only [am_s] at hs
  split at hs
  · cases hs
    exact lv_ladd hx hb hd (am_kp I kk hl (am_ss.cn trivial hst.tl.tl))
  · cases hs
theorem am_st_lsub (F : am_fix p R s mm args meth c m) (hA : ∀ q, s.heap.size ≤ q → A q) (hX : am_ext ρ0 L xs A s s.heap) (hK : va_K D am_cl (am_tys τ) s) (h6 : 6 ≤ n0) : am_STEP p l e R s mm args below meth c Q m D τ A L xs n0 ρ0 (.lsub) := by
  intro H locs cells slots pc nx a b cc k lv ls ls' st st' h h' g pc' ρ lsC hok hkd hs hg I hcel hslo kk
  obtain ⟨hx, hb, hml, hown, hts, hfr, hlo, hin⟩ := F
  obtain ⟨hP, hD, hS, hl, hst, hh, hdm, hn0, hρ⟩ := id I
  simp only [am_okb, am_okb1, Bool.and_eq_true, decide_eq_true_eq, and_true] at hok
  try simp only [am_lni] at hok
  obtain ⟨hd, rfl⟩ := hok
  simp only [am_s] at hs
  split at hs
  · cases hs
    exact lv_lsub hx hb hd (am_kp I kk hl (am_ss.cn trivial hst.tl.tl))
  · cases hs
theorem am_st_lmul (F : am_fix p R s mm args meth c m) (hA : ∀ q, s.heap.size ≤ q → A q) (hX : am_ext ρ0 L xs A s s.heap) (hK : va_K D am_cl (am_tys τ) s) (h6 : 6 ≤ n0) : am_STEP p l e R s mm args below meth c Q m D τ A L xs n0 ρ0 (.lmul) := by
  intro H locs cells slots pc nx a b cc k lv ls ls' st st' h h' g pc' ρ lsC hok hkd hs hg I hcel hslo kk
  obtain ⟨hx, hb, hml, hown, hts, hfr, hlo, hin⟩ := F
  obtain ⟨hP, hD, hS, hl, hst, hh, hdm, hn0, hρ⟩ := id I
  simp only [am_okb, am_okb1, Bool.and_eq_true, decide_eq_true_eq, and_true] at hok
  try simp only [am_lni] at hok
  obtain ⟨hd, rfl⟩ := hok
  simp only [am_s] at hs
  split at hs
  · cases hs
    exact lv_lmul hx hb hd (am_kp I kk hl (am_ss.cn trivial hst.tl.tl))
  · cases hs
theorem am_st_land (F : am_fix p R s mm args meth c m) (hA : ∀ q, s.heap.size ≤ q → A q) (hX : am_ext ρ0 L xs A s s.heap) (hK : va_K D am_cl (am_tys τ) s) (h6 : 6 ≤ n0) : am_STEP p l e R s mm args below meth c Q m D τ A L xs n0 ρ0 (.land) := by
  intro H locs cells slots pc nx a b cc k lv ls ls' st st' h h' g pc' ρ lsC hok hkd hs hg I hcel hslo kk
  obtain ⟨hx, hb, hml, hown, hts, hfr, hlo, hin⟩ := F
  obtain ⟨hP, hD, hS, hl, hst, hh, hdm, hn0, hρ⟩ := id I
  simp only [am_okb, am_okb1, Bool.and_eq_true, decide_eq_true_eq, and_true] at hok
  try simp only [am_lni] at hok
  obtain ⟨hd, rfl⟩ := hok
  simp only [am_s] at hs
  split at hs
  · cases hs
    exact lv_land hx hb hd (am_kp I kk hl (am_ss.cn trivial hst.tl.tl))
  · cases hs
theorem am_st_lor (F : am_fix p R s mm args meth c m) (hA : ∀ q, s.heap.size ≤ q → A q) (hX : am_ext ρ0 L xs A s s.heap) (hK : va_K D am_cl (am_tys τ) s) (h6 : 6 ≤ n0) : am_STEP p l e R s mm args below meth c Q m D τ A L xs n0 ρ0 (.lor) := by
  intro H locs cells slots pc nx a b cc k lv ls ls' st st' h h' g pc' ρ lsC hok hkd hs hg I hcel hslo kk
  obtain ⟨hx, hb, hml, hown, hts, hfr, hlo, hin⟩ := F
  obtain ⟨hP, hD, hS, hl, hst, hh, hdm, hn0, hρ⟩ := id I
  simp only [am_okb, am_okb1, Bool.and_eq_true, decide_eq_true_eq, and_true] at hok
  try simp only [am_lni] at hok
  obtain ⟨hd, rfl⟩ := hok
  simp only [am_s] at hs
  split at hs
  · cases hs
    exact lv_lor hx hb hd (am_kp I kk hl (am_ss.cn trivial hst.tl.tl))
  · cases hs
theorem am_st_irem (F : am_fix p R s mm args meth c m) (hA : ∀ q, s.heap.size ≤ q → A q) (hX : am_ext ρ0 L xs A s s.heap) (hK : va_K D am_cl (am_tys τ) s) (h6 : 6 ≤ n0) : am_STEP p l e R s mm args below meth c Q m D τ A L xs n0 ρ0 (.irem) := by
  intro H locs cells slots pc nx a b cc k lv ls ls' st st' h h' g pc' ρ lsC hok hkd hs hg I hcel hslo kk
  obtain ⟨hx, hb, hml, hown, hts, hfr, hlo, hin⟩ := F
  obtain ⟨hP, hD, hS, hl, hst, hh, hdm, hn0, hρ⟩ := id I
  simp only [am_okb, am_okb1, Bool.and_eq_true, decide_eq_true_eq, and_true] at hok
  try simp only [am_lni] at hok
  obtain ⟨hd, rfl⟩ := hok
  simp only [am_s] at hs
  split at hs
  · cases hs
    exact lv_irem hx hb hd hg (am_kp I kk hl (am_ss.cn trivial hst.tl.tl))
  · cases hs
theorem am_st_ldiv (F : am_fix p R s mm args meth c m) (hA : ∀ q, s.heap.size ≤ q → A q) (hX : am_ext ρ0 L xs A s s.heap) (hK : va_K D am_cl (am_tys τ) s) (h6 : 6 ≤ n0) : am_STEP p l e R s mm args below meth c Q m D τ A L xs n0 ρ0 (.ldiv) := by
  intro H locs cells slots pc nx a b cc k lv ls ls' st st' h h' g pc' ρ lsC hok hkd hs hg I hcel hslo kk
  obtain ⟨hx, hb, hml, hown, hts, hfr, hlo, hin⟩ := F
  obtain ⟨hP, hD, hS, hl, hst, hh, hdm, hn0, hρ⟩ := id I
  simp only [am_okb, am_okb1, Bool.and_eq_true, decide_eq_true_eq, and_true] at hok
  try simp only [am_lni] at hok
  obtain ⟨hd, rfl⟩ := hok
  simp only [am_s] at hs
  split at hs
  · cases hs
    exact lv_ldiv hx hb hd hg (am_kp I kk hl (am_ss.cn trivial hst.tl.tl))
  · cases hs
theorem am_st_lrem (F : am_fix p R s mm args meth c m) (hA : ∀ q, s.heap.size ≤ q → A q) (hX : am_ext ρ0 L xs A s s.heap) (hK : va_K D am_cl (am_tys τ) s) (h6 : 6 ≤ n0) : am_STEP p l e R s mm args below meth c Q m D τ A L xs n0 ρ0 (.lrem) := by
  intro H locs cells slots pc nx a b cc k lv ls ls' st st' h h' g pc' ρ lsC hok hkd hs hg I hcel hslo kk
  obtain ⟨hx, hb, hml, hown, hts, hfr, hlo, hin⟩ := F
  obtain ⟨hP, hD, hS, hl, hst, hh, hdm, hn0, hρ⟩ := id I
  simp only [am_okb, am_okb1, Bool.and_eq_true, decide_eq_true_eq, and_true] at hok
  try simp only [am_lni] at hok
  obtain ⟨hd, rfl⟩ := hok
  simp only [am_s] at hs
  split at hs
  · cases hs
    exact lv_lrem hx hb hd hg (am_kp I kk hl (am_ss.cn trivial hst.tl.tl))
  · cases hs
theorem am_st_lcmp (F : am_fix p R s mm args meth c m) (hA : ∀ q, s.heap.size ≤ q → A q) (hX : am_ext ρ0 L xs A s s.heap) (hK : va_K D am_cl (am_tys τ) s) (h6 : 6 ≤ n0) : am_STEP p l e R s mm args below meth c Q m D τ A L xs n0 ρ0 (.lcmp) := by
  intro H locs cells slots pc nx a b cc k lv ls ls' st st' h h' g pc' ρ lsC hok hkd hs hg I hcel hslo kk
  obtain ⟨hx, hb, hml, hown, hts, hfr, hlo, hin⟩ := F
  obtain ⟨hP, hD, hS, hl, hst, hh, hdm, hn0, hρ⟩ := id I
  simp only [am_okb, am_okb1, Bool.and_eq_true, decide_eq_true_eq, and_true] at hok
  try simp only [am_lni] at hok
  obtain ⟨hd, rfl⟩ := hok
  simp only [am_s] at hs
  split at hs
  · cases hs
    exact W.lcmp hx hb hd (am_kp I kk hl (am_ss.cn trivial hst.tl.tl))
  · cases hs
theorem am_st_lshl (F : am_fix p R s mm args meth c m) (hA : ∀ q, s.heap.size ≤ q → A q) (hX : am_ext ρ0 L xs A s s.heap) (hK : va_K D am_cl (am_tys τ) s) (h6 : 6 ≤ n0) : am_STEP p l e R s mm args below meth c Q m D τ A L xs n0 ρ0 (.lshl) := by
  intro H locs cells slots pc nx a b cc k lv ls ls' st st' h h' g pc' ρ lsC hok hkd hs hg I hcel hslo kk
  obtain ⟨hx, hb, hml, hown, hts, hfr, hlo, hin⟩ := F
  obtain ⟨hP, hD, hS, hl, hst, hh, hdm, hn0, hρ⟩ := id I
  simp only [am_okb, am_okb1, Bool.and_eq_true, decide_eq_true_eq, and_true] at hok
  try simp only [am_lni] at hok
  obtain ⟨hd, rfl⟩ := hok
  simp only [am_s] at hs
  split at hs
  · cases hs
    exact lv_lshl hx hb hd rfl (am_kp I kk hl (am_ss.cn trivial hst.tl.tl))
  · cases hs
theorem am_st_lshr (F : am_fix p R s mm args meth c m) (hA : ∀ q, s.heap.size ≤ q → A q) (hX : am_ext ρ0 L xs A s s.heap) (hK : va_K D am_cl (am_tys τ) s) (h6 : 6 ≤ n0) : am_STEP p l e R s mm args below meth c Q m D τ A L xs n0 ρ0 (.lshr) := by
  intro H locs cells slots pc nx a b cc k lv ls ls' st st' h h' g pc' ρ lsC hok hkd hs hg I hcel hslo kk
  obtain ⟨hx, hb, hml, hown, hts, hfr, hlo, hin⟩ := F
  obtain ⟨hP, hD, hS, hl, hst, hh, hdm, hn0, hρ⟩ := id I
  simp only [am_okb, am_okb1, Bool.and_eq_true, decide_eq_true_eq, and_true] at hok
  try simp only [am_lni] at hok
  obtain ⟨hd, rfl⟩ := hok
  simp only [am_s] at hs
  split at hs
  · cases hs
    exact lv_lshr hx hb hd rfl (am_kp I kk hl (am_ss.cn trivial hst.tl.tl))
  · cases hs
theorem am_st_lushr (F : am_fix p R s mm args meth c m) (hA : ∀ q, s.heap.size ≤ q → A q) (hX : am_ext ρ0 L xs A s s.heap) (hK : va_K D am_cl (am_tys τ) s) (h6 : 6 ≤ n0) : am_STEP p l e R s mm args below meth c Q m D τ A L xs n0 ρ0 (.lushr) := by
  intro H locs cells slots pc nx a b cc k lv ls ls' st st' h h' g pc' ρ lsC hok hkd hs hg I hcel hslo kk
  obtain ⟨hx, hb, hml, hown, hts, hfr, hlo, hin⟩ := F
  obtain ⟨hP, hD, hS, hl, hst, hh, hdm, hn0, hρ⟩ := id I
  simp only [am_okb, am_okb1, Bool.and_eq_true, decide_eq_true_eq, and_true] at hok
  try simp only [am_lni] at hok
  obtain ⟨hd, rfl⟩ := hok
  simp only [am_s] at hs
  split at hs
  · cases hs
    exact lv_lushr hx hb hd rfl (am_kp I kk hl (am_ss.cn trivial hst.tl.tl))
  · cases hs
theorem am_st_i2l (F : am_fix p R s mm args meth c m) (hA : ∀ q, s.heap.size ≤ q → A q) (hX : am_ext ρ0 L xs A s s.heap) (hK : va_K D am_cl (am_tys τ) s) (h6 : 6 ≤ n0) : am_STEP p l e R s mm args below meth c Q m D τ A L xs n0 ρ0 (.i2l) := by
  intro H locs cells slots pc nx a b cc k lv ls ls' st st' h h' g pc' ρ lsC hok hkd hs hg I hcel hslo kk
  obtain ⟨hx, hb, hml, hown, hts, hfr, hlo, hin⟩ := F
  obtain ⟨hP, hD, hS, hl, hst, hh, hdm, hn0, hρ⟩ := id I
  simp only [am_okb, am_okb1, Bool.and_eq_true, decide_eq_true_eq, and_true] at hok
  try simp only [am_lni] at hok
  obtain ⟨hd, rfl⟩ := hok
  simp only [am_s] at hs
  split at hs
  · cases hs
    exact lv_i2l hx hb hd rfl (am_kp I kk hl (am_ss.cn trivial hst.tl))
  · cases hs
theorem am_st_l2i (F : am_fix p R s mm args meth c m) (hA : ∀ q, s.heap.size ≤ q → A q) (hX : am_ext ρ0 L xs A s s.heap) (hK : va_K D am_cl (am_tys τ) s) (h6 : 6 ≤ n0) : am_STEP p l e R s mm args below meth c Q m D τ A L xs n0 ρ0 (.l2i) := by
  intro H locs cells slots pc nx a b cc k lv ls ls' st st' h h' g pc' ρ lsC hok hkd hs hg I hcel hslo kk
  obtain ⟨hx, hb, hml, hown, hts, hfr, hlo, hin⟩ := F
  obtain ⟨hP, hD, hS, hl, hst, hh, hdm, hn0, hρ⟩ := id I
  simp only [am_okb, am_okb1, Bool.and_eq_true, decide_eq_true_eq, and_true] at hok
  try simp only [am_lni] at hok
  obtain ⟨hd, rfl⟩ := hok
  simp only [am_s] at hs
  split at hs
  · cases hs
    exact lv_l2i hx hb hd rfl (am_kp I kk hl (am_ss.cn trivial hst.tl))
  · cases hs
theorem am_st_i2b (F : am_fix p R s mm args meth c m) (hA : ∀ q, s.heap.size ≤ q → A q) (hX : am_ext ρ0 L xs A s s.heap) (hK : va_K D am_cl (am_tys τ) s) (h6 : 6 ≤ n0) : am_STEP p l e R s mm args below meth c Q m D τ A L xs n0 ρ0 (.i2b) := by
  intro H locs cells slots pc nx a b cc k lv ls ls' st st' h h' g pc' ρ lsC hok hkd hs hg I hcel hslo kk
  obtain ⟨hx, hb, hml, hown, hts, hfr, hlo, hin⟩ := F
  obtain ⟨hP, hD, hS, hl, hst, hh, hdm, hn0, hρ⟩ := id I
  simp only [am_okb, am_okb1, Bool.and_eq_true, decide_eq_true_eq, and_true] at hok
  try simp only [am_lni] at hok
  obtain ⟨hd, rfl⟩ := hok
  simp only [am_s] at hs
  split at hs
  · cases hs
    exact lv_i2b hx hb hd rfl (am_kp I kk hl (am_ss.cn trivial hst.tl))
  · cases hs
theorem am_st_iload (F : am_fix p R s mm args meth c m) (hA : ∀ q, s.heap.size ≤ q → A q) (hX : am_ext ρ0 L xs A s s.heap) (hK : va_K D am_cl (am_tys τ) s) (h6 : 6 ≤ n0) {n : Nat} : am_STEP p l e R s mm args below meth c Q m D τ A L xs n0 ρ0 (.iload n) := by
  intro H locs cells slots pc nx a b cc k lv ls ls' st st' h h' g pc' ρ lsC hok hkd hs hg I hcel hslo kk
  obtain ⟨hx, hb, hml, hown, hts, hfr, hlo, hin⟩ := F
  obtain ⟨hP, hD, hS, hl, hst, hh, hdm, hn0, hρ⟩ := id I
  simp only [am_okb, am_okb1, Bool.and_eq_true, decide_eq_true_eq, and_true] at hok
  try simp only [am_lni] at hok
  obtain ⟨⟨hd, rfl⟩, rfl⟩ := hok
  simp only [am_s, am_ldi] at hs
  split at hs
  · rename_i x hx2
    cases hs
    exact lv_iload hx hb hd (hl.2.2 _ _ hx2).2 (am_kp I kk hl (am_ss.cn trivial hst))
  · cases hs
theorem am_st_iload_n (F : am_fix p R s mm args meth c m) (hA : ∀ q, s.heap.size ≤ q → A q) (hX : am_ext ρ0 L xs A s s.heap) (hK : va_K D am_cl (am_tys τ) s) (h6 : 6 ≤ n0) {n : Fin 4} : am_STEP p l e R s mm args below meth c Q m D τ A L xs n0 ρ0 (.iload_n n) := by
  intro H locs cells slots pc nx a b cc k lv ls ls' st st' h h' g pc' ρ lsC hok hkd hs hg I hcel hslo kk
  obtain ⟨hx, hb, hml, hown, hts, hfr, hlo, hin⟩ := F
  obtain ⟨hP, hD, hS, hl, hst, hh, hdm, hn0, hρ⟩ := id I
  simp only [am_okb, am_okb1, Bool.and_eq_true, decide_eq_true_eq, and_true] at hok
  try simp only [am_lni] at hok
  obtain ⟨⟨hd, rfl⟩, rfl⟩ := hok
  simp only [am_s, am_ldi] at hs
  split at hs
  · rename_i x hx2
    cases hs
    exact lv_iload_n hx hb hd rfl (hl.2.2 _ _ hx2).2 (am_kp I kk hl (am_ss.cn trivial hst))
  · cases hs
theorem am_st_lload (F : am_fix p R s mm args meth c m) (hA : ∀ q, s.heap.size ≤ q → A q) (hX : am_ext ρ0 L xs A s s.heap) (hK : va_K D am_cl (am_tys τ) s) (h6 : 6 ≤ n0) {n : Nat} : am_STEP p l e R s mm args below meth c Q m D τ A L xs n0 ρ0 (.lload n) := by
  intro H locs cells slots pc nx a b cc k lv ls ls' st st' h h' g pc' ρ lsC hok hkd hs hg I hcel hslo kk
  obtain ⟨hx, hb, hml, hown, hts, hfr, hlo, hin⟩ := F
  obtain ⟨hP, hD, hS, hl, hst, hh, hdm, hn0, hρ⟩ := id I
  simp only [am_okb, am_okb1, Bool.and_eq_true, decide_eq_true_eq, and_true] at hok
  try simp only [am_lni] at hok
  obtain ⟨⟨hd, rfl⟩, rfl⟩ := hok
  simp only [am_s, am_ldl] at hs
  split at hs
  · rename_i x hx2
    cases hs
    exact lv_lload hx hb hd (hl.2.2 _ _ hx2).2 (am_kp I kk hl (am_ss.cn trivial hst))
  · cases hs
theorem am_st_lload_n (F : am_fix p R s mm args meth c m) (hA : ∀ q, s.heap.size ≤ q → A q) (hX : am_ext ρ0 L xs A s s.heap) (hK : va_K D am_cl (am_tys τ) s) (h6 : 6 ≤ n0) {n : Fin 4} : am_STEP p l e R s mm args below meth c Q m D τ A L xs n0 ρ0 (.lload_n n) := by
  intro H locs cells slots pc nx a b cc k lv ls ls' st st' h h' g pc' ρ lsC hok hkd hs hg I hcel hslo kk
  obtain ⟨hx, hb, hml, hown, hts, hfr, hlo, hin⟩ := F
  obtain ⟨hP, hD, hS, hl, hst, hh, hdm, hn0, hρ⟩ := id I
  simp only [am_okb, am_okb1, Bool.and_eq_true, decide_eq_true_eq, and_true] at hok
  try simp only [am_lni] at hok
  obtain ⟨⟨hd, rfl⟩, rfl⟩ := hok
  simp only [am_s, am_ldl] at hs
  split at hs
  · rename_i x hx2
    cases hs
    exact lv_lload_n hx hb hd rfl (hl.2.2 _ _ hx2).2 (am_kp I kk hl (am_ss.cn trivial hst))
  · cases hs
theorem am_st_aload (F : am_fix p R s mm args meth c m) (hA : ∀ q, s.heap.size ≤ q → A q) (hX : am_ext ρ0 L xs A s s.heap) (hK : va_K D am_cl (am_tys τ) s) (h6 : 6 ≤ n0) {n : Nat} : am_STEP p l e R s mm args below meth c Q m D τ A L xs n0 ρ0 (.aload n) := by
  intro H locs cells slots pc nx a b cc k lv ls ls' st st' h h' g pc' ρ lsC hok hkd hs hg I hcel hslo kk
  obtain ⟨hx, hb, hml, hown, hts, hfr, hlo, hin⟩ := F
  obtain ⟨hP, hD, hS, hl, hst, hh, hdm, hn0, hρ⟩ := id I
  simp only [am_okb, am_okb1, Bool.and_eq_true, decide_eq_true_eq, and_true] at hok
  try simp only [am_lni] at hok
  obtain ⟨⟨hd, rfl⟩, rfl⟩ := hok
  simp only [am_s, am_lda] at hs
  split at hs
  · rename_i x hx2
    cases hs
    exact lv_aload hx hb hd (hl.2.2 _ _ hx2).2 (am_kp I kk hl (am_ss.cn (hl.2.2 _ _ hx2).1 hst))
  · rename_i hx2
    cases hs
    exact lv_aloadN hx hb hd (hl.2.2 _ _ hx2).2 (am_kp I kk hl (am_ss.cn trivial hst))
  · cases hs
theorem am_st_istore (F : am_fix p R s mm args meth c m) (hA : ∀ q, s.heap.size ≤ q → A q) (hX : am_ext ρ0 L xs A s s.heap) (hK : va_K D am_cl (am_tys τ) s) (h6 : 6 ≤ n0) {n : Nat} : am_STEP p l e R s mm args below meth c Q m D τ A L xs n0 ρ0 (.istore n) := by
  intro H locs cells slots pc nx a b cc k lv ls ls' st st' h h' g pc' ρ lsC hok hkd hs hg I hcel hslo kk
  obtain ⟨hx, hb, hml, hown, hts, hfr, hlo, hin⟩ := F
  obtain ⟨hP, hD, hS, hl, hst, hh, hdm, hn0, hρ⟩ := id I
  simp only [am_okb, am_okb1, Bool.and_eq_true, decide_eq_true_eq, and_true] at hok
  try simp only [am_lni] at hok
  obtain ⟨⟨hd, rfl⟩, rfl, hlt⟩ := hok
  simp only [am_s, am_sti] at hs
  split at hs
  · cases hs
    exact lv_istore hx hb hd hl.has hlt rfl (fun lsC' hl' => am_kp I kk (hl.s1 trivial hl') hst.tl)
  · cases hs
theorem am_st_lstore (F : am_fix p R s mm args meth c m) (hA : ∀ q, s.heap.size ≤ q → A q) (hX : am_ext ρ0 L xs A s s.heap) (hK : va_K D am_cl (am_tys τ) s) (h6 : 6 ≤ n0) {n : Nat} : am_STEP p l e R s mm args below meth c Q m D τ A L xs n0 ρ0 (.lstore n) := by
  intro H locs cells slots pc nx a b cc k lv ls ls' st st' h h' g pc' ρ lsC hok hkd hs hg I hcel hslo kk
  obtain ⟨hx, hb, hml, hown, hts, hfr, hlo, hin⟩ := F
  obtain ⟨hP, hD, hS, hl, hst, hh, hdm, hn0, hρ⟩ := id I
  simp only [am_okb, am_okb1, Bool.and_eq_true, decide_eq_true_eq, and_true] at hok
  try simp only [am_lni] at hok
  obtain ⟨⟨hd, rfl⟩, rfl, hlt⟩ := hok
  simp only [am_s, am_stl] at hs
  split at hs
  · cases hs
    exact lv_lstore hx hb hd hl.has hlt rfl (fun lsC' hl' => am_kp I kk (hl.s2 trivial hl') hst.tl)
  · cases hs
theorem am_st_astore (F : am_fix p R s mm args meth c m) (hA : ∀ q, s.heap.size ≤ q → A q) (hX : am_ext ρ0 L xs A s s.heap) (hK : va_K D am_cl (am_tys τ) s) (h6 : 6 ≤ n0) {n : Nat} : am_STEP p l e R s mm args below meth c Q m D τ A L xs n0 ρ0 (.astore n) := by
  intro H locs cells slots pc nx a b cc k lv ls ls' st st' h h' g pc' ρ lsC hok hkd hs hg I hcel hslo kk
  obtain ⟨hx, hb, hml, hown, hts, hfr, hlo, hin⟩ := F
  obtain ⟨hP, hD, hS, hl, hst, hh, hdm, hn0, hρ⟩ := id I
  simp only [am_okb, am_okb1, Bool.and_eq_true, decide_eq_true_eq, and_true] at hok
  try simp only [am_lni] at hok
  obtain ⟨⟨hd, rfl⟩, rfl, hlt⟩ := hok
  simp only [am_s, am_sta] at hs
  split at hs
  · rename_i x r
    cases hs
    exact lv_astore hx hb hd hl.has hlt rfl (fun lsC' hl' => am_kp I kk (hl.s1 (v := .ref x) hst.hd hl') hst.tl)
  · cases hs
    exact lv_astoreN hx hb hd hl.has hlt rfl (fun lsC' hl' => am_kp I kk (hl.s1 (v := .null) trivial hl') hst.tl)
  · cases hs
theorem am_st_aload_n (F : am_fix p R s mm args meth c m) (hA : ∀ q, s.heap.size ≤ q → A q) (hX : am_ext ρ0 L xs A s s.heap) (hK : va_K D am_cl (am_tys τ) s) (h6 : 6 ≤ n0) {n : Fin 4} : am_STEP p l e R s mm args below meth c Q m D τ A L xs n0 ρ0 (.aload_n n) := by
  intro H locs cells slots pc nx a b cc k lv ls ls' st st' h h' g pc' ρ lsC hok hkd hs hg I hcel hslo kk
  obtain ⟨hx, hb, hml, hown, hts, hfr, hlo, hin⟩ := F
  obtain ⟨hP, hD, hS, hl, hst, hh, hdm, hn0, hρ⟩ := id I
  simp only [am_okb, am_okb1, Bool.and_eq_true, decide_eq_true_eq, and_true] at hok
  try simp only [am_lni] at hok
  obtain ⟨⟨hd, rfl⟩, rfl⟩ := hok
  simp only [am_s, am_lda] at hs
  split at hs
  · rename_i x hx2
    cases hs
    exact lv_aload_n hx hb hd rfl (hl.2.2 _ _ hx2).2 (am_kp I kk hl (am_ss.cn (hl.2.2 _ _ hx2).1 hst))
  · rename_i hx2
    cases hs
    exact lv_aload_nN hx hb hd rfl (hl.2.2 _ _ hx2).2 (am_kp I kk hl (am_ss.cn trivial hst))
  · cases hs
theorem am_st_istore_n (F : am_fix p R s mm args meth c m) (hA : ∀ q, s.heap.size ≤ q → A q) (hX : am_ext ρ0 L xs A s s.heap) (hK : va_K D am_cl (am_tys τ) s) (h6 : 6 ≤ n0) {n : Fin 4} : am_STEP p l e R s mm args below meth c Q m D τ A L xs n0 ρ0 (.istore_n n) := by
  intro H locs cells slots pc nx a b cc k lv ls ls' st st' h h' g pc' ρ lsC hok hkd hs hg I hcel hslo kk
  obtain ⟨hx, hb, hml, hown, hts, hfr, hlo, hin⟩ := F
  obtain ⟨hP, hD, hS, hl, hst, hh, hdm, hn0, hρ⟩ := id I
  simp only [am_okb, am_okb1, Bool.and_eq_true, decide_eq_true_eq, and_true] at hok
  try simp only [am_lni] at hok
  obtain ⟨⟨hd, rfl⟩, rfl, hlt⟩ := hok
  simp only [am_s, am_sti] at hs
  split at hs
  · cases hs
    exact lv_istore_n hx hb hd rfl hl.has hlt rfl (fun lsC' hl' => am_kp I kk (hl.s1 trivial hl') hst.tl)
  · cases hs
theorem am_st_lstore_n (F : am_fix p R s mm args meth c m) (hA : ∀ q, s.heap.size ≤ q → A q) (hX : am_ext ρ0 L xs A s s.heap) (hK : va_K D am_cl (am_tys τ) s) (h6 : 6 ≤ n0) {n : Fin 4} : am_STEP p l e R s mm args below meth c Q m D τ A L xs n0 ρ0 (.lstore_n n) := by
  intro H locs cells slots pc nx a b cc k lv ls ls' st st' h h' g pc' ρ lsC hok hkd hs hg I hcel hslo kk
  obtain ⟨hx, hb, hml, hown, hts, hfr, hlo, hin⟩ := F
  obtain ⟨hP, hD, hS, hl, hst, hh, hdm, hn0, hρ⟩ := id I
  simp only [am_okb, am_okb1, Bool.and_eq_true, decide_eq_true_eq, and_true] at hok
  try simp only [am_lni] at hok
  obtain ⟨⟨hd, rfl⟩, rfl, hlt⟩ := hok
  simp only [am_s, am_stl] at hs
  split at hs
  · cases hs
    exact lv_lstore_n hx hb hd rfl hl.has hlt rfl (fun lsC' hl' => am_kp I kk (hl.s2 trivial hl') hst.tl)
  · cases hs
theorem am_st_astore_n (F : am_fix p R s mm args meth c m) (hA : ∀ q, s.heap.size ≤ q → A q) (hX : am_ext ρ0 L xs A s s.heap) (hK : va_K D am_cl (am_tys τ) s) (h6 : 6 ≤ n0) {n : Fin 4} : am_STEP p l e R s mm args below meth c Q m D τ A L xs n0 ρ0 (.astore_n n) := by
  intro H locs cells slots pc nx a b cc k lv ls ls' st st' h h' g pc' ρ lsC hok hkd hs hg I hcel hslo kk
  obtain ⟨hx, hb, hml, hown, hts, hfr, hlo, hin⟩ := F
  obtain ⟨hP, hD, hS, hl, hst, hh, hdm, hn0, hρ⟩ := id I
  simp only [am_okb, am_okb1, Bool.and_eq_true, decide_eq_true_eq, and_true] at hok
  try simp only [am_lni] at hok
  obtain ⟨⟨hd, rfl⟩, rfl, hlt⟩ := hok
  simp only [am_s, am_sta] at hs
  split at hs
  · rename_i x r
    cases hs
    exact lv_astore_n hx hb hd rfl hl.has hlt rfl (fun lsC' hl' => am_kp I kk (hl.s1 (v := .ref x) hst.hd hl') hst.tl)
  · cases hs
    exact lv_astore_nN hx hb hd rfl hl.has hlt rfl (fun lsC' hl' => am_kp I kk (hl.s1 (v := .null) trivial hl') hst.tl)
  · cases hs
theorem am_st_iinc (F : am_fix p R s mm args meth c m) (hA : ∀ q, s.heap.size ≤ q → A q) (hX : am_ext ρ0 L xs A s s.heap) (hK : va_K D am_cl (am_tys τ) s) (h6 : 6 ≤ n0) {n : Nat} {d : Int} : am_STEP p l e R s mm args below meth c Q m D τ A L xs n0 ρ0 (.iinc n d) := by
  intro H locs cells slots pc nx a b cc k lv ls ls' st st' h h' g pc' ρ lsC hok hkd hs hg I hcel hslo kk
  obtain ⟨hx, hb, hml, hown, hts, hfr, hlo, hin⟩ := F
  obtain ⟨hP, hD, hS, hl, hst, hh, hdm, hn0, hρ⟩ := id I
  simp only [am_okb, am_okb1, Bool.and_eq_true, decide_eq_true_eq, and_true] at hok
  try simp only [am_lni] at hok
  obtain ⟨⟨hd, rfl⟩, ⟨rfl, rfl⟩, hlt⟩ := hok
  simp only [am_s] at hs
  split at hs
  · rename_i x hx2
    cases hs
    have hm := am_ll_in (ρ := ρ) ls 0 n (.int x) hx2
    rw [Nat.zero_add] at hm
    obtain ⟨j, hj⟩ := List.getElem?_of_mem hm
    exact lv_iinc hx hb hd hl.has hj rfl hlt rfl (fun lsC' hl' => am_kp I kk (hl.s1 trivial hl') hst)
  · cases hs
theorem am_st_iconst (F : am_fix p R s mm args meth c m) (hA : ∀ q, s.heap.size ≤ q → A q) (hX : am_ext ρ0 L xs A s s.heap) (hK : va_K D am_cl (am_tys τ) s) (h6 : 6 ≤ n0) {n : Int} : am_STEP p l e R s mm args below meth c Q m D τ A L xs n0 ρ0 (.iconst n) := by
  intro H locs cells slots pc nx a b cc k lv ls ls' st st' h h' g pc' ρ lsC hok hkd hs hg I hcel hslo kk
  obtain ⟨hx, hb, hml, hown, hts, hfr, hlo, hin⟩ := F
  obtain ⟨hP, hD, hS, hl, hst, hh, hdm, hn0, hρ⟩ := id I
  simp only [am_okb, am_okb1, Bool.and_eq_true, decide_eq_true_eq, and_true] at hok
  try simp only [am_lni] at hok
  obtain ⟨⟨hd, rfl⟩, hv⟩ := hok
  simp only [am_s, am_cst] at hs
  cases hs
  exact lv_iconst hx hb hd hv (am_kp I kk hl (am_ss.cn trivial hst))
theorem am_st_bipush (F : am_fix p R s mm args meth c m) (hA : ∀ q, s.heap.size ≤ q → A q) (hX : am_ext ρ0 L xs A s s.heap) (hK : va_K D am_cl (am_tys τ) s) (h6 : 6 ≤ n0) {n : Int} : am_STEP p l e R s mm args below meth c Q m D τ A L xs n0 ρ0 (.bipush n) := by
  intro H locs cells slots pc nx a b cc k lv ls ls' st st' h h' g pc' ρ lsC hok hkd hs hg I hcel hslo kk
  obtain ⟨hx, hb, hml, hown, hts, hfr, hlo, hin⟩ := F
  obtain ⟨hP, hD, hS, hl, hst, hh, hdm, hn0, hρ⟩ := id I
  simp only [am_okb, am_okb1, Bool.and_eq_true, decide_eq_true_eq, and_true] at hok
  try simp only [am_lni] at hok
  obtain ⟨⟨hd, rfl⟩, hv⟩ := hok
  simp only [am_s, am_cst] at hs
  cases hs
  exact lv_bipush hx hb hd hv (am_kp I kk hl (am_ss.cn trivial hst))
theorem am_st_sipush (F : am_fix p R s mm args meth c m) (hA : ∀ q, s.heap.size ≤ q → A q) (hX : am_ext ρ0 L xs A s s.heap) (hK : va_K D am_cl (am_tys τ) s) (h6 : 6 ≤ n0) {n : Int} : am_STEP p l e R s mm args below meth c Q m D τ A L xs n0 ρ0 (.sipush n) := by
  intro H locs cells slots pc nx a b cc k lv ls ls' st st' h h' g pc' ρ lsC hok hkd hs hg I hcel hslo kk
  obtain ⟨hx, hb, hml, hown, hts, hfr, hlo, hin⟩ := F
  obtain ⟨hP, hD, hS, hl, hst, hh, hdm, hn0, hρ⟩ := id I
  simp only [am_okb, am_okb1, Bool.and_eq_true, decide_eq_true_eq, and_true] at hok
  try simp only [am_lni] at hok
  obtain ⟨⟨hd, rfl⟩, hv⟩ := hok
  simp only [am_s, am_cst] at hs
  cases hs
  exact lv_sipush hx hb hd hv (am_kp I kk hl (am_ss.cn trivial hst))
theorem am_st_lconst (F : am_fix p R s mm args meth c m) (hA : ∀ q, s.heap.size ≤ q → A q) (hX : am_ext ρ0 L xs A s s.heap) (hK : va_K D am_cl (am_tys τ) s) (h6 : 6 ≤ n0) {n : Fin 2} : am_STEP p l e R s mm args below meth c Q m D τ A L xs n0 ρ0 (.lconst n) := by
  intro H locs cells slots pc nx a b cc k lv ls ls' st st' h h' g pc' ρ lsC hok hkd hs hg I hcel hslo kk
  obtain ⟨hx, hb, hml, hown, hts, hfr, hlo, hin⟩ := F
  obtain ⟨hP, hD, hS, hl, hst, hh, hdm, hn0, hρ⟩ := id I
  simp only [am_okb, am_okb1, Bool.and_eq_true, decide_eq_true_eq, and_true] at hok
  try simp only [am_lni] at hok
  obtain ⟨⟨hd, rfl⟩, hv⟩ := hok
  simp only [am_s] at hs
  cases hs
  exact lv_lconst hx hb hd hv (am_kp I kk hl (am_ss.cn trivial hst))
theorem am_st_ldc2_w (F : am_fix p R s mm args meth c m) (hA : ∀ q, s.heap.size ≤ q → A q) (hX : am_ext ρ0 L xs A s s.heap) (hK : va_K D am_cl (am_tys τ) s) (h6 : 6 ≤ n0) {x : Nat} : am_STEP p l e R s mm args below meth c Q m D τ A L xs n0 ρ0 (.ldc2_w x) := by
  intro H locs cells slots pc nx a b cc k lv ls ls' st st' h h' g pc' ρ lsC hok hkd hs hg I hcel hslo kk
  obtain ⟨hx, hb, hml, hown, hts, hfr, hlo, hin⟩ := F
  obtain ⟨hP, hD, hS, hl, hst, hh, hdm, hn0, hρ⟩ := id I
  simp only [am_okb, am_okb1, Bool.and_eq_true, decide_eq_true_eq, and_true] at hok
  try simp only [am_lni] at hok
  obtain ⟨⟨hd, rfl⟩, hq⟩ := hok
  simp only [am_s] at hs
  cases hs
  exact lv_ldc2 hx hb hown (hts _ (am_KL_ok _ hq)) hd (am_kp I kk hl (am_ss.cn trivial hst))
theorem am_st_ldc (F : am_fix p R s mm args meth c m) (hA : ∀ q, s.heap.size ≤ q → A q) (hX : am_ext ρ0 L xs A s s.heap) (hK : va_K D am_cl (am_tys τ) s) (h6 : 6 ≤ n0) {x : Nat} : am_STEP p l e R s mm args below meth c Q m D τ A L xs n0 ρ0 (.ldc x) := by
  intro H locs cells slots pc nx a b cc k lv ls ls' st st' h h' g pc' ρ lsC hok hkd hs hg I hcel hslo kk
  obtain ⟨hx, hb, hml, hown, hts, hfr, hlo, hin⟩ := F
  obtain ⟨hP, hD, hS, hl, hst, hh, hdm, hn0, hρ⟩ := id I
  simp only [am_okb, am_okb1, Bool.and_eq_true, decide_eq_true_eq, and_true] at hok
  try simp only [am_lni] at hok
  obtain ⟨⟨hd, rfl⟩, hq⟩ := hok
  simp only [am_s] at hs
  cases b with
  | zero =>
    simp only [decide_eq_true_eq] at hq
    cases hs
    exact lv_ldc hx hb hown (hts _ (am_KI_ok _ hq)) hd (am_kp I kk hl (am_ss.cn trivial hst))
  | succ b =>
    simp only [decide_eq_true_eq, Bool.and_eq_true] at hq
    obtain ⟨rfl, hq⟩ := hq
    cases hs
    have e4 := hρ 4 (by omega)
    exact va_ldcM (mi := ρ 4) hx hb hown (hts _ (am_MI_ok _ hq)) (by rw [e4]; exact hX.2.2.2.1) hd (am_kp I kk hl (am_ss.cn (v := .ref 4) (Nat.lt_of_lt_of_le (by decide) hdm.1) hst))
theorem am_st_getstatic (F : am_fix p R s mm args meth c m) (hA : ∀ q, s.heap.size ≤ q → A q) (hX : am_ext ρ0 L xs A s s.heap) (hK : va_K D am_cl (am_tys τ) s) (h6 : 6 ≤ n0) {x : Nat} : am_STEP p l e R s mm args below meth c Q m D τ A L xs n0 ρ0 (.getstatic x) := by
  intro H locs cells slots pc nx a b cc k lv ls ls' st st' h h' g pc' ρ lsC hok hkd hs hg I hcel hslo kk
  obtain ⟨hx, hb, hml, hown, hts, hfr, hlo, hin⟩ := F
  obtain ⟨hP, hD, hS, hl, hst, hh, hdm, hn0, hρ⟩ := id I
  simp only [am_okb, am_okb1, Bool.and_eq_true, decide_eq_true_eq, and_true] at hok
  try simp only [am_lni] at hok
  obtain ⟨⟨hd, rfl⟩, hq⟩ := hok
  simp only [am_s] at hs
  cases hs
  obtain ⟨C, n, d, q1, q2⟩ := am_SL_ok _ hq
  have ha : a < 4 := am_xs_lt q1
  have e4 := hρ a (by omega)
  have hZ := hX.1 a C n d q1
  rw [← e4] at hZ
  exact va_gets hx hb hZ hS hown (hts _ q2) (fun _ q => q) hd (am_kp I kk hl (am_ss.cn (v := .ref a) (Nat.lt_of_lt_of_le (by omega) hdm.1) hst))
theorem am_st_dup (F : am_fix p R s mm args meth c m) (hA : ∀ q, s.heap.size ≤ q → A q) (hX : am_ext ρ0 L xs A s s.heap) (hK : va_K D am_cl (am_tys τ) s) (h6 : 6 ≤ n0) : am_STEP p l e R s mm args below meth c Q m D τ A L xs n0 ρ0 (.dup) := by
  intro H locs cells slots pc nx a b cc k lv ls ls' st st' h h' g pc' ρ lsC hok hkd hs hg I hcel hslo kk
  obtain ⟨hx, hb, hml, hown, hts, hfr, hlo, hin⟩ := F
  obtain ⟨hP, hD, hS, hl, hst, hh, hdm, hn0, hρ⟩ := id I
  simp only [am_okb, am_okb1, Bool.and_eq_true, decide_eq_true_eq, and_true] at hok
  try simp only [am_lni] at hok
  obtain ⟨hd, rfl⟩ := hok
  simp only [am_s] at hs
  split at hs
  · cases hs
    exact lv_dup hx hb hd rfl (am_kp I kk hl (am_ss.cn trivial hst))
  · cases hs
    exact lv_dup hx hb hd rfl (am_kp I kk hl (am_ss.cn hst.hd hst))
  · cases hs
theorem am_st_pop (F : am_fix p R s mm args meth c m) (hA : ∀ q, s.heap.size ≤ q → A q) (hX : am_ext ρ0 L xs A s s.heap) (hK : va_K D am_cl (am_tys τ) s) (h6 : 6 ≤ n0) : am_STEP p l e R s mm args below meth c Q m D τ A L xs n0 ρ0 (.pop) := by
  intro H locs cells slots pc nx a b cc k lv ls ls' st st' h h' g pc' ρ lsC hok hkd hs hg I hcel hslo kk
  obtain ⟨hx, hb, hml, hown, hts, hfr, hlo, hin⟩ := F
  obtain ⟨hP, hD, hS, hl, hst, hh, hdm, hn0, hρ⟩ := id I
  simp only [am_okb, am_okb1, Bool.and_eq_true, decide_eq_true_eq, and_true] at hok
  try simp only [am_lni] at hok
  obtain ⟨hd, rfl⟩ := hok
  simp only [am_s] at hs
  split at hs
  · cases hs
    exact lv_pop hx hb hd rfl (am_kp I kk hl hst.tl)
  · cases hs
    exact lv_pop hx hb hd rfl (am_kp I kk hl hst.tl)
  · cases hs
theorem am_st_dup_x1 (F : am_fix p R s mm args meth c m) (hA : ∀ q, s.heap.size ≤ q → A q) (hX : am_ext ρ0 L xs A s s.heap) (hK : va_K D am_cl (am_tys τ) s) (h6 : 6 ≤ n0) : am_STEP p l e R s mm args below meth c Q m D τ A L xs n0 ρ0 (.dup_x1) := by
  intro H locs cells slots pc nx a b cc k lv ls ls' st st' h h' g pc' ρ lsC hok hkd hs hg I hcel hslo kk
  obtain ⟨hx, hb, hml, hown, hts, hfr, hlo, hin⟩ := F
  obtain ⟨hP, hD, hS, hl, hst, hh, hdm, hn0, hρ⟩ := id I
  simp only [am_okb, am_okb1, Bool.and_eq_true, decide_eq_true_eq, and_true] at hok
  try simp only [am_lni] at hok
  obtain ⟨hd, rfl⟩ := hok
  simp only [am_s] at hs
  split at hs
  · cases hs
    exact lv_dup_x1 hx hb hd rfl rfl (am_kp I kk hl (am_ss.cn hst.hd (am_ss.cn hst.tl.hd (am_ss.cn hst.hd hst.tl.tl))))
  · cases hs
    exact lv_dup_x1 hx hb hd rfl rfl (am_kp I kk hl (am_ss.cn hst.hd (am_ss.cn hst.tl.hd (am_ss.cn hst.hd hst.tl.tl))))
  · cases hs
theorem am_st_dup2 (F : am_fix p R s mm args meth c m) (hA : ∀ q, s.heap.size ≤ q → A q) (hX : am_ext ρ0 L xs A s s.heap) (hK : va_K D am_cl (am_tys τ) s) (h6 : 6 ≤ n0) : am_STEP p l e R s mm args below meth c Q m D τ A L xs n0 ρ0 (.dup2) := by
  intro H locs cells slots pc nx a b cc k lv ls ls' st st' h h' g pc' ρ lsC hok hkd hs hg I hcel hslo kk
  obtain ⟨hx, hb, hml, hown, hts, hfr, hlo, hin⟩ := F
  obtain ⟨hP, hD, hS, hl, hst, hh, hdm, hn0, hρ⟩ := id I
  simp only [am_okb, am_okb1, Bool.and_eq_true, decide_eq_true_eq, and_true] at hok
  try simp only [am_lni] at hok
  obtain ⟨hd, rfl⟩ := hok
  simp only [am_s] at hs
  split at hs
  · cases hs
    exact lv_dup2_11 hx hb hd rfl rfl (am_kp I kk hl (am_ss.cn hst.hd (am_ss.cn hst.tl.hd hst)))
  · cases hs
    exact lv_dup2_2 hx hb hd rfl (am_kp I kk hl (am_ss.cn hst.hd hst))
  · cases hs
theorem am_st_aconst_null (F : am_fix p R s mm args meth c m) (hA : ∀ q, s.heap.size ≤ q → A q) (hX : am_ext ρ0 L xs A s s.heap) (hK : va_K D am_cl (am_tys τ) s) (h6 : 6 ≤ n0) : am_STEP p l e R s mm args below meth c Q m D τ A L xs n0 ρ0 (.aconst_null) := by
  intro H locs cells slots pc nx a b cc k lv ls ls' st st' h h' g pc' ρ lsC hok hkd hs hg I hcel hslo kk
  obtain ⟨hx, hb, hml, hown, hts, hfr, hlo, hin⟩ := F
  obtain ⟨hP, hD, hS, hl, hst, hh, hdm, hn0, hρ⟩ := id I
  simp only [am_okb, am_okb1, Bool.and_eq_true, decide_eq_true_eq, and_true] at hok
  try simp only [am_lni] at hok
  obtain ⟨hd, rfl⟩ := hok
  simp only [am_s] at hs
  cases hs
  exact lv_null hx hb hd (am_kp I kk hl (am_ss.cn trivial hst))
theorem am_st_goto (F : am_fix p R s mm args meth c m) (hA : ∀ q, s.heap.size ≤ q → A q) (hX : am_ext ρ0 L xs A s s.heap) (hK : va_K D am_cl (am_tys τ) s) (h6 : 6 ≤ n0) {d : Int} : am_STEP p l e R s mm args below meth c Q m D τ A L xs n0 ρ0 (.goto d) := by
  intro H locs cells slots pc nx a b cc k lv ls ls' st st' h h' g pc' ρ lsC hok hkd hs hg I hcel hslo kk
  obtain ⟨hx, hb, hml, hown, hts, hfr, hlo, hin⟩ := F
  obtain ⟨hP, hD, hS, hl, hst, hh, hdm, hn0, hρ⟩ := id I
  simp only [am_okb, am_okb1, Bool.and_eq_true, decide_eq_true_eq, and_true] at hok
  try simp only [am_lni] at hok
  obtain ⟨⟨hd, rfl⟩, ht⟩ := hok
  simp only [am_s] at hs
  cases hs
  exact lv_goto hx hb hd ht (am_kp I kk hl hst)
theorem am_st_icmp_eq (F : am_fix p R s mm args meth c m) (hA : ∀ q, s.heap.size ≤ q → A q) (hX : am_ext ρ0 L xs A s s.heap) (hK : va_K D am_cl (am_tys τ) s) (h6 : 6 ≤ n0) {d : Int} : am_STEP p l e R s mm args below meth c Q m D τ A L xs n0 ρ0 (.if_icmp .eq d) := by
  intro H locs cells slots pc nx a b cc k lv ls ls' st st' h h' g pc' ρ lsC hok hkd hs hg I hcel hslo kk
  obtain ⟨hx, hb, hml, hown, hts, hfr, hlo, hin⟩ := F
  obtain ⟨hP, hD, hS, hl, hst, hh, hdm, hn0, hρ⟩ := id I
  simp only [am_okb, am_okb1, Bool.and_eq_true, decide_eq_true_eq, and_true] at hok
  try simp only [am_lni] at hok
  obtain ⟨⟨hd, rfl⟩, ht⟩ := hok
  simp only [am_s, am_i2] at hs
  split at hs
  · cases hs
    refine lv_icmp_eq hx hb hd ht (fun hc => ?_) (fun hc => ?_)
    · rw [if_pos hc] at kk
      exact am_kp I kk hl hst.tl.tl
    · rw [if_neg (hc)] at kk
      exact am_kp I kk hl hst.tl.tl
  · cases hs
theorem am_st_if_eq (F : am_fix p R s mm args meth c m) (hA : ∀ q, s.heap.size ≤ q → A q) (hX : am_ext ρ0 L xs A s s.heap) (hK : va_K D am_cl (am_tys τ) s) (h6 : 6 ≤ n0) {d : Int} : am_STEP p l e R s mm args below meth c Q m D τ A L xs n0 ρ0 (.ifCond .eq d) := by
  intro H locs cells slots pc nx a b cc k lv ls ls' st st' h h' g pc' ρ lsC hok hkd hs hg I hcel hslo kk
  obtain ⟨hx, hb, hml, hown, hts, hfr, hlo, hin⟩ := F
  obtain ⟨hP, hD, hS, hl, hst, hh, hdm, hn0, hρ⟩ := id I
  simp only [am_okb, am_okb1, Bool.and_eq_true, decide_eq_true_eq, and_true] at hok
  try simp only [am_lni] at hok
  obtain ⟨⟨hd, rfl⟩, ht⟩ := hok
  simp only [am_s, am_i1] at hs
  split at hs
  · cases hs
    refine lv_if_eq hx hb hd ht (fun hc => ?_) (fun hc => ?_)
    · rw [if_pos hc] at kk
      exact am_kp I kk hl hst.tl
    · rw [if_neg (hc)] at kk
      exact am_kp I kk hl hst.tl
  · cases hs
theorem am_st_icmp_ne (F : am_fix p R s mm args meth c m) (hA : ∀ q, s.heap.size ≤ q → A q) (hX : am_ext ρ0 L xs A s s.heap) (hK : va_K D am_cl (am_tys τ) s) (h6 : 6 ≤ n0) {d : Int} : am_STEP p l e R s mm args below meth c Q m D τ A L xs n0 ρ0 (.if_icmp .ne d) := by
  intro H locs cells slots pc nx a b cc k lv ls ls' st st' h h' g pc' ρ lsC hok hkd hs hg I hcel hslo kk
  obtain ⟨hx, hb, hml, hown, hts, hfr, hlo, hin⟩ := F
  obtain ⟨hP, hD, hS, hl, hst, hh, hdm, hn0, hρ⟩ := id I
  simp only [am_okb, am_okb1, Bool.and_eq_true, decide_eq_true_eq, and_true] at hok
  try simp only [am_lni] at hok
  obtain ⟨⟨hd, rfl⟩, ht⟩ := hok
  simp only [am_s, am_i2] at hs
  split at hs
  · cases hs
    refine lv_icmp_ne hx hb hd ht (fun hc => ?_) (fun hc => ?_)
    · rw [if_pos hc] at kk
      exact am_kp I kk hl hst.tl.tl
    · rw [if_neg (fun q => q hc)] at kk
      exact am_kp I kk hl hst.tl.tl
  · cases hs
theorem am_st_if_ne (F : am_fix p R s mm args meth c m) (hA : ∀ q, s.heap.size ≤ q → A q) (hX : am_ext ρ0 L xs A s s.heap) (hK : va_K D am_cl (am_tys τ) s) (h6 : 6 ≤ n0) {d : Int} : am_STEP p l e R s mm args below meth c Q m D τ A L xs n0 ρ0 (.ifCond .ne d) := by
  intro H locs cells slots pc nx a b cc k lv ls ls' st st' h h' g pc' ρ lsC hok hkd hs hg I hcel hslo kk
  obtain ⟨hx, hb, hml, hown, hts, hfr, hlo, hin⟩ := F
  obtain ⟨hP, hD, hS, hl, hst, hh, hdm, hn0, hρ⟩ := id I
  simp only [am_okb, am_okb1, Bool.and_eq_true, decide_eq_true_eq, and_true] at hok
  try simp only [am_lni] at hok
  obtain ⟨⟨hd, rfl⟩, ht⟩ := hok
  simp only [am_s, am_i1] at hs
  split at hs
  · cases hs
    refine lv_if_ne hx hb hd ht (fun hc => ?_) (fun hc => ?_)
    · rw [if_pos hc] at kk
      exact am_kp I kk hl hst.tl
    · rw [if_neg (fun q => q hc)] at kk
      exact am_kp I kk hl hst.tl
  · cases hs
theorem am_st_icmp_lt (F : am_fix p R s mm args meth c m) (hA : ∀ q, s.heap.size ≤ q → A q) (hX : am_ext ρ0 L xs A s s.heap) (hK : va_K D am_cl (am_tys τ) s) (h6 : 6 ≤ n0) {d : Int} : am_STEP p l e R s mm args below meth c Q m D τ A L xs n0 ρ0 (.if_icmp .lt d) := by
  intro H locs cells slots pc nx a b cc k lv ls ls' st st' h h' g pc' ρ lsC hok hkd hs hg I hcel hslo kk
  obtain ⟨hx, hb, hml, hown, hts, hfr, hlo, hin⟩ := F
  obtain ⟨hP, hD, hS, hl, hst, hh, hdm, hn0, hρ⟩ := id I
  simp only [am_okb, am_okb1, Bool.and_eq_true, decide_eq_true_eq, and_true] at hok
  try simp only [am_lni] at hok
  obtain ⟨⟨hd, rfl⟩, ht⟩ := hok
  simp only [am_s, am_i2] at hs
  split at hs
  · cases hs
    refine lv_icmp_lt hx hb hd ht (fun hc => ?_) (fun hc => ?_)
    · rw [if_pos hc] at kk
      exact am_kp I kk hl hst.tl.tl
    · rw [if_neg (hc)] at kk
      exact am_kp I kk hl hst.tl.tl
  · cases hs
theorem am_st_if_lt (F : am_fix p R s mm args meth c m) (hA : ∀ q, s.heap.size ≤ q → A q) (hX : am_ext ρ0 L xs A s s.heap) (hK : va_K D am_cl (am_tys τ) s) (h6 : 6 ≤ n0) {d : Int} : am_STEP p l e R s mm args below meth c Q m D τ A L xs n0 ρ0 (.ifCond .lt d) := by
  intro H locs cells slots pc nx a b cc k lv ls ls' st st' h h' g pc' ρ lsC hok hkd hs hg I hcel hslo kk
  obtain ⟨hx, hb, hml, hown, hts, hfr, hlo, hin⟩ := F
  obtain ⟨hP, hD, hS, hl, hst, hh, hdm, hn0, hρ⟩ := id I
  simp only [am_okb, am_okb1, Bool.and_eq_true, decide_eq_true_eq, and_true] at hok
  try simp only [am_lni] at hok
  obtain ⟨⟨hd, rfl⟩, ht⟩ := hok
  simp only [am_s, am_i1] at hs
  split at hs
  · cases hs
    refine lv_if_lt hx hb hd ht (fun hc => ?_) (fun hc => ?_)
    · rw [if_pos hc] at kk
      exact am_kp I kk hl hst.tl
    · rw [if_neg (hc)] at kk
      exact am_kp I kk hl hst.tl
  · cases hs
theorem am_st_icmp_ge (F : am_fix p R s mm args meth c m) (hA : ∀ q, s.heap.size ≤ q → A q) (hX : am_ext ρ0 L xs A s s.heap) (hK : va_K D am_cl (am_tys τ) s) (h6 : 6 ≤ n0) {d : Int} : am_STEP p l e R s mm args below meth c Q m D τ A L xs n0 ρ0 (.if_icmp .ge d) := by
  intro H locs cells slots pc nx a b cc k lv ls ls' st st' h h' g pc' ρ lsC hok hkd hs hg I hcel hslo kk
  obtain ⟨hx, hb, hml, hown, hts, hfr, hlo, hin⟩ := F
  obtain ⟨hP, hD, hS, hl, hst, hh, hdm, hn0, hρ⟩ := id I
  simp only [am_okb, am_okb1, Bool.and_eq_true, decide_eq_true_eq, and_true] at hok
  try simp only [am_lni] at hok
  obtain ⟨⟨hd, rfl⟩, ht⟩ := hok
  simp only [am_s, am_i2] at hs
  split at hs
  · cases hs
    refine lv_icmp_ge hx hb hd ht (fun hc => ?_) (fun hc => ?_)
    · rw [if_pos hc] at kk
      exact am_kp I kk hl hst.tl.tl
    · rw [if_neg (hc)] at kk
      exact am_kp I kk hl hst.tl.tl
  · cases hs
theorem am_st_if_ge (F : am_fix p R s mm args meth c m) (hA : ∀ q, s.heap.size ≤ q → A q) (hX : am_ext ρ0 L xs A s s.heap) (hK : va_K D am_cl (am_tys τ) s) (h6 : 6 ≤ n0) {d : Int} : am_STEP p l e R s mm args below meth c Q m D τ A L xs n0 ρ0 (.ifCond .ge d) := by
  intro H locs cells slots pc nx a b cc k lv ls ls' st st' h h' g pc' ρ lsC hok hkd hs hg I hcel hslo kk
  obtain ⟨hx, hb, hml, hown, hts, hfr, hlo, hin⟩ := F
  obtain ⟨hP, hD, hS, hl, hst, hh, hdm, hn0, hρ⟩ := id I
  simp only [am_okb, am_okb1, Bool.and_eq_true, decide_eq_true_eq, and_true] at hok
  try simp only [am_lni] at hok
  obtain ⟨⟨hd, rfl⟩, ht⟩ := hok
  simp only [am_s, am_i1] at hs
  split at hs
  · cases hs
    refine lv_if_ge hx hb hd ht (fun hc => ?_) (fun hc => ?_)
    · rw [if_pos hc] at kk
      exact am_kp I kk hl hst.tl
    · rw [if_neg (hc)] at kk
      exact am_kp I kk hl hst.tl
  · cases hs
theorem am_st_icmp_gt (F : am_fix p R s mm args meth c m) (hA : ∀ q, s.heap.size ≤ q → A q) (hX : am_ext ρ0 L xs A s s.heap) (hK : va_K D am_cl (am_tys τ) s) (h6 : 6 ≤ n0) {d : Int} : am_STEP p l e R s mm args below meth c Q m D τ A L xs n0 ρ0 (.if_icmp .gt d) := by
  intro H locs cells slots pc nx a b cc k lv ls ls' st st' h h' g pc' ρ lsC hok hkd hs hg I hcel hslo kk
  obtain ⟨hx, hb, hml, hown, hts, hfr, hlo, hin⟩ := F
  obtain ⟨hP, hD, hS, hl, hst, hh, hdm, hn0, hρ⟩ := id I
  simp only [am_okb, am_okb1, Bool.and_eq_true, decide_eq_true_eq, and_true] at hok
  try simp only [am_lni] at hok
  obtain ⟨⟨hd, rfl⟩, ht⟩ := hok
  simp only [am_s, am_i2] at hs
  split at hs
  · cases hs
    refine lv_icmp_gt hx hb hd ht (fun hc => ?_) (fun hc => ?_)
    · rw [if_pos hc] at kk
      exact am_kp I kk hl hst.tl.tl
    · rw [if_neg (hc)] at kk
      exact am_kp I kk hl hst.tl.tl
  · cases hs
theorem am_st_if_gt (F : am_fix p R s mm args meth c m) (hA : ∀ q, s.heap.size ≤ q → A q) (hX : am_ext ρ0 L xs A s s.heap) (hK : va_K D am_cl (am_tys τ) s) (h6 : 6 ≤ n0) {d : Int} : am_STEP p l e R s mm args below meth c Q m D τ A L xs n0 ρ0 (.ifCond .gt d) := by
  intro H locs cells slots pc nx a b cc k lv ls ls' st st' h h' g pc' ρ lsC hok hkd hs hg I hcel hslo kk
  obtain ⟨hx, hb, hml, hown, hts, hfr, hlo, hin⟩ := F
  obtain ⟨hP, hD, hS, hl, hst, hh, hdm, hn0, hρ⟩ := id I
  simp only [am_okb, am_okb1, Bool.and_eq_true, decide_eq_true_eq, and_true] at hok
  try simp only [am_lni] at hok
  obtain ⟨⟨hd, rfl⟩, ht⟩ := hok
  simp only [am_s, am_i1] at hs
  split at hs
  · cases hs
    refine lv_if_gt hx hb hd ht (fun hc => ?_) (fun hc => ?_)
    · rw [if_pos hc] at kk
      exact am_kp I kk hl hst.tl
    · rw [if_neg (hc)] at kk
      exact am_kp I kk hl hst.tl
  · cases hs
theorem am_st_icmp_le (F : am_fix p R s mm args meth c m) (hA : ∀ q, s.heap.size ≤ q → A q) (hX : am_ext ρ0 L xs A s s.heap) (hK : va_K D am_cl (am_tys τ) s) (h6 : 6 ≤ n0) {d : Int} : am_STEP p l e R s mm args below meth c Q m D τ A L xs n0 ρ0 (.if_icmp .le d) := by
  intro H locs cells slots pc nx a b cc k lv ls ls' st st' h h' g pc' ρ lsC hok hkd hs hg I hcel hslo kk
  obtain ⟨hx, hb, hml, hown, hts, hfr, hlo, hin⟩ := F
  obtain ⟨hP, hD, hS, hl, hst, hh, hdm, hn0, hρ⟩ := id I
  simp only [am_okb, am_okb1, Bool.and_eq_true, decide_eq_true_eq, and_true] at hok
  try simp only [am_lni] at hok
  obtain ⟨⟨hd, rfl⟩, ht⟩ := hok
  simp only [am_s, am_i2] at hs
  split at hs
  · cases hs
    refine lv_icmp_le hx hb hd ht (fun hc => ?_) (fun hc => ?_)
    · rw [if_pos hc] at kk
      exact am_kp I kk hl hst.tl.tl
    · rw [if_neg (hc)] at kk
      exact am_kp I kk hl hst.tl.tl
  · cases hs
theorem am_st_if_le (F : am_fix p R s mm args meth c m) (hA : ∀ q, s.heap.size ≤ q → A q) (hX : am_ext ρ0 L xs A s s.heap) (hK : va_K D am_cl (am_tys τ) s) (h6 : 6 ≤ n0) {d : Int} : am_STEP p l e R s mm args below meth c Q m D τ A L xs n0 ρ0 (.ifCond .le d) := by
  intro H locs cells slots pc nx a b cc k lv ls ls' st st' h h' g pc' ρ lsC hok hkd hs hg I hcel hslo kk
  obtain ⟨hx, hb, hml, hown, hts, hfr, hlo, hin⟩ := F
  obtain ⟨hP, hD, hS, hl, hst, hh, hdm, hn0, hρ⟩ := id I
  simp only [am_okb, am_okb1, Bool.and_eq_true, decide_eq_true_eq, and_true] at hok
  try simp only [am_lni] at hok
  obtain ⟨⟨hd, rfl⟩, ht⟩ := hok
  simp only [am_s, am_i1] at hs
  split at hs
  · cases hs
    refine lv_if_le hx hb hd ht (fun hc => ?_) (fun hc => ?_)
    · rw [if_pos hc] at kk
      exact am_kp I kk hl hst.tl
    · rw [if_neg (hc)] at kk
      exact am_kp I kk hl hst.tl
  · cases hs
theorem am_st_acmp_eq (F : am_fix p R s mm args meth c m) (hA : ∀ q, s.heap.size ≤ q → A q) (hX : am_ext ρ0 L xs A s s.heap) (hK : va_K D am_cl (am_tys τ) s) (h6 : 6 ≤ n0) {d : Int} : am_STEP p l e R s mm args below meth c Q m D τ A L xs n0 ρ0 (.if_acmp .eq d) := by
  intro H locs cells slots pc nx a b cc k lv ls ls' st st' h h' g pc' ρ lsC hok hkd hs hg I hcel hslo kk
  obtain ⟨hx, hb, hml, hown, hts, hfr, hlo, hin⟩ := F
  obtain ⟨hP, hD, hS, hl, hst, hh, hdm, hn0, hρ⟩ := id I
  simp only [am_okb, am_okb1, Bool.and_eq_true, decide_eq_true_eq, and_true] at hok
  try simp only [am_lni] at hok
  obtain ⟨⟨hd, rfl⟩, ht⟩ := hok
  simp only [am_s, am_acmp] at hs
  split at hs
  · rename_i y x r
    cases hs
    have hinj : ρ x = ρ y → x = y := by
      rcases hg with e | ⟨x1, x2, y1, y2⟩
      · exact fun _ => e
      · intro e
        rw [hρ x (Nat.lt_of_le_of_lt x2 (by omega)), hρ y (Nat.lt_of_le_of_lt y2 (by omega))] at e
        exact hX.2.2.1 x y x1 x2 y1 y2 e
    refine lv_acmp_eq (rx := some (ρ x)) (ry := some (ρ y)) hx hb hd ht (fun hc => ?_) (fun hc => ?_)
    · have hc : x = y := hinj (Option.some.inj hc)
      rw [if_pos hc] at kk
      exact am_kp I kk hl hst.tl.tl
    · have hc : ¬ x = y := fun q => hc (by rw [q])
      rw [if_neg hc] at kk
      exact am_kp I kk hl hst.tl.tl
  · cases hs
theorem am_st_acmp_ne (F : am_fix p R s mm args meth c m) (hA : ∀ q, s.heap.size ≤ q → A q) (hX : am_ext ρ0 L xs A s s.heap) (hK : va_K D am_cl (am_tys τ) s) (h6 : 6 ≤ n0) {d : Int} : am_STEP p l e R s mm args below meth c Q m D τ A L xs n0 ρ0 (.if_acmp .ne d) := by
  intro H locs cells slots pc nx a b cc k lv ls ls' st st' h h' g pc' ρ lsC hok hkd hs hg I hcel hslo kk
  obtain ⟨hx, hb, hml, hown, hts, hfr, hlo, hin⟩ := F
  obtain ⟨hP, hD, hS, hl, hst, hh, hdm, hn0, hρ⟩ := id I
  simp only [am_okb, am_okb1, Bool.and_eq_true, decide_eq_true_eq, and_true] at hok
  try simp only [am_lni] at hok
  obtain ⟨⟨hd, rfl⟩, ht⟩ := hok
  simp only [am_s, am_acmp] at hs
  split at hs
  · rename_i y x r
    cases hs
    have hinj : ρ x = ρ y → x = y := by
      rcases hg with e | ⟨x1, x2, y1, y2⟩
      · exact fun _ => e
      · intro e
        rw [hρ x (Nat.lt_of_le_of_lt x2 (by omega)), hρ y (Nat.lt_of_le_of_lt y2 (by omega))] at e
        exact hX.2.2.1 x y x1 x2 y1 y2 e
    refine lv_acmp_ne (rx := some (ρ x)) (ry := some (ρ y)) hx hb hd ht (fun hc => ?_) (fun hc => ?_)
    · have hc : ¬ x = y := fun q => hc (by rw [q])
      rw [if_pos hc] at kk
      exact am_kp I kk hl hst.tl.tl
    · have hc : ¬ ¬ x = y := fun q => q (hinj (Option.some.inj hc))
      rw [if_neg hc] at kk
      exact am_kp I kk hl hst.tl.tl
  · cases hs
theorem am_st_ifnull (F : am_fix p R s mm args meth c m) (hA : ∀ q, s.heap.size ≤ q → A q) (hX : am_ext ρ0 L xs A s s.heap) (hK : va_K D am_cl (am_tys τ) s) (h6 : 6 ≤ n0) {d : Int} : am_STEP p l e R s mm args below meth c Q m D τ A L xs n0 ρ0 (.ifnull d) := by
  intro H locs cells slots pc nx a b cc k lv ls ls' st st' h h' g pc' ρ lsC hok hkd hs hg I hcel hslo kk
  obtain ⟨hx, hb, hml, hown, hts, hfr, hlo, hin⟩ := F
  obtain ⟨hP, hD, hS, hl, hst, hh, hdm, hn0, hρ⟩ := id I
  simp only [am_okb, am_okb1, Bool.and_eq_true, decide_eq_true_eq, and_true] at hok
  try simp only [am_lni] at hok
  obtain ⟨⟨hd, rfl⟩, ht⟩ := hok
  simp only [am_s] at hs
  split at hs
  · cases hs
    exact lv_ifnullN hx hb hd ht (am_kp I kk hl hst.tl)
  · cases hs
    exact lv_ifnull hx hb hd (am_kp I kk hl hst.tl)
  · cases hs
theorem am_st_ifnonnull (F : am_fix p R s mm args meth c m) (hA : ∀ q, s.heap.size ≤ q → A q) (hX : am_ext ρ0 L xs A s s.heap) (hK : va_K D am_cl (am_tys τ) s) (h6 : 6 ≤ n0) {d : Int} : am_STEP p l e R s mm args below meth c Q m D τ A L xs n0 ρ0 (.ifnonnull d) := by
  intro H locs cells slots pc nx a b cc k lv ls ls' st st' h h' g pc' ρ lsC hok hkd hs hg I hcel hslo kk
  obtain ⟨hx, hb, hml, hown, hts, hfr, hlo, hin⟩ := F
  obtain ⟨hP, hD, hS, hl, hst, hh, hdm, hn0, hρ⟩ := id I
  simp only [am_okb, am_okb1, Bool.and_eq_true, decide_eq_true_eq, and_true] at hok
  try simp only [am_lni] at hok
  obtain ⟨⟨hd, rfl⟩, ht⟩ := hok
  simp only [am_s] at hs
  split at hs
  · cases hs
    exact lv_ifnonnullN hx hb hd (am_kp I kk hl hst.tl)
  · cases hs
    exact lv_ifnonnull hx hb hd ht (am_kp I kk hl hst.tl)
  · cases hs
theorem am_st_tableswitch (F : am_fix p R s mm args meth c m) (hA : ∀ q, s.heap.size ≤ q → A q) (hX : am_ext ρ0 L xs A s s.heap) (hK : va_K D am_cl (am_tys τ) s) (h6 : 6 ≤ n0) {d lo hi : Int} {offs : Array Int} : am_STEP p l e R s mm args below meth c Q m D τ A L xs n0 ρ0 (.tableswitch d lo hi offs) := by
  intro H locs cells slots pc nx a b cc k lv ls ls' st st' h h' g pc' ρ lsC hok hkd hs hg I hcel hslo kk
  obtain ⟨hx, hb, hml, hown, hts, hfr, hlo, hin⟩ := F
  obtain ⟨hP, hD, hS, hl, hst, hh, hdm, hn0, hρ⟩ := id I
  simp only [am_okb, am_okb1, Bool.and_eq_true, decide_eq_true_eq, and_true] at hok
  try simp only [am_lni] at hok
  obtain ⟨⟨⟨hd, ht⟩, rfl⟩, hall⟩ := hok
  simp only [am_s] at hs
  split at hs
  · rename_i x r
    cases hs
    by_cases hc : x.toInt < lo ∨ hi < x.toInt
    · rw [if_pos hc] at kk
      exact lv_tableOut hx hb hd hc ht (am_kp I kk hl hst.tl)
    · rw [if_neg hc] at kk
      have h1 : ¬ x.toInt < lo := fun q => hc (Or.inl q)
      have h2 : ¬ hi < x.toInt := fun q => hc (Or.inr q)
      have hj := List.all_eq_true.mp hall (x.toInt - lo).toNat (List.mem_range.mpr (by omega))
      split at hj
      · rename_i off ho
        simp only [decide_eq_true_eq] at hj
        have e : offs.getD (x.toInt - lo).toNat 0 = off := by simp [Array.getD_eq_getD_getElem?, ho]
        rw [e] at kk
        exact lv_tableIn hx hb hd h1 h2 ho (by rw [Int.toNat_of_nonneg hj]) (am_kp I kk hl hst.tl)
      · cases hj
  · cases hs
theorem am_cA {U : State} {c1 c2 : ClassId} {ty : FieldType} (h1 : va_RA U c1 ty) (h2 : va_RA U c2 ty) : c1 = c2 := by
  cases ty with
  | object C =>
    obtain ⟨-, -, -, -, -, e1⟩ := h1
    obtain ⟨-, -, -, -, -, e2⟩ := h2
    exact Option.some.inj (e1.symm.trans e2)
  | _ =>
    have e1 : U.vm.findClass _ = some c1 := h1
    have e2 : U.vm.findClass _ = some c2 := h2
    exact Option.some.inj (e1.symm.trans e2)
theorem am_tc_up {t n k : Nat} {f : Nat → Option Nat} {o : Option Nat} : am_tc ρ τ (.inl (t, (n, .inr (.inr (.inr (.inr (va_up f k o))))))) = .inl (τ t, (n, .inr (.inr (.inr (.inr (va_up (fun i => (f i).map ρ) k (o.map ρ))))))) := by
  have e : (fun i => (va_up f k o i).map ρ) = va_up (fun i => (f i).map ρ) k (o.map ρ) := by
    funext i
    by_cases hi : i = k
    · subst hi; simp [va_up]
    · simp [va_up, hi]
  simp only [am_tc, e]
theorem am_sc_up {N t n k : Nat} {f : Nat → Option Nat} {o : Option Nat} (h : am_scc N (.inl (t, (n, .inr (.inr (.inr (.inr f))))))) (ho : ∀ v, o = some v → v < N) : am_scc N (.inl (t, (n, .inr (.inr (.inr (.inr (va_up f k o))))))) := by
  intro i v hv
  simp only [va_up] at hv
  split at hv
  · exact ho v hv
  · exact h i v hv
theorem am_tc_cpy {t n sp dp N : Nat} {f g : Nat → Option Nat} : am_tc ρ τ (.inl (t, (n, .inr (.inr (.inr (.inr (va_cpy f g sp dp N))))))) = .inl (τ t, (n, .inr (.inr (.inr (.inr (va_cpy (fun i => (f i).map ρ) (fun i => (g i).map ρ) sp dp N)))))) := by
  have e : (fun i => (va_cpy f g sp dp N i).map ρ) = va_cpy (fun i => (f i).map ρ) (fun i => (g i).map ρ) sp dp N := by
    funext i
    simp only [va_cpy]
    split <;> rfl
  simp only [am_tc, e]
theorem am_tc_set {ci k : Nat} {fs : List Value} {v : Value} : am_tc ρ τ (.inr (ci, am_set fs k v)) = .inr (ci, (fs.map (am_t ρ)).set k (am_t ρ v)) := by
  simp only [am_tc, am_set_eq, List.map_set]
theorem am_room_le {st : List Value} (h : am_room st = true) : ((st.map (am_t ρ)).map fun v => v.category).sum ≤ 8 := by
  have e : (st.map (am_t ρ)).map (fun v => v.category) = st.map fun v => v.category := by
    rw [List.map_map]
    exact List.map_congr_left fun v _ => am_t_cat ρ v
  rw [e]
  exact Nat.le_of_ble_eq_true h
theorem am_df_ok (ci : Nat) : ∀ v ∈ am_df ci, v = .int 0 ∨ v = .long 0 ∨ v = .null := by
  match ci with
  | 0 => decide
  | 1 => decide
  | 2 => decide
  | 3 => decide
  | 4 => decide
  | 5 => decide
  | 6 => decide
  | 7 => decide
  | 8 => decide
  | 9 => decide
  | n + 10 => intro v hv; simp [am_df, am_dfs, am_get] at hv
theorem am_df_sc (ci n : Nat) : ∀ v ∈ am_df ci, am_sc n v := by
  intro v hv
  rcases am_df_ok ci v hv with rfl | rfl | rfl <;> trivial
theorem am_df_t (ci : Nat) : (am_df ci).map (am_t ρ) = am_df ci := by
  have : ∀ v ∈ am_df ci, am_t ρ v = v := by
    intro v hv
    rcases am_df_ok ci v hv with rfl | rfl | rfl <;> rfl
  rw [List.map_congr_left this, List.map_id']
theorem am_cell_x {t n : Nat} {y : (Nat → Int32) ⊕ (Nat → Int64) ⊕ (Nat → UInt32) ⊕ (Nat → UInt64) ⊕ (Nat → Option Nat)} : ∃ y', am_tc ρ τ (.inl (t, (n, y))) = .inl (τ t, (n, y')) := by
  rcases y with f | f | f | f | f <;> exact ⟨_, rfl⟩
theorem am_tys_at {t : Nat} (h : t ≤ 5) : ∃ ty, (am_tys τ)[t]? = some (τ t, ty) := by
  match t, h with
  | 0, _ => exact ⟨_, rfl⟩
  | 1, _ => exact ⟨_, rfl⟩
  | 2, _ => exact ⟨_, rfl⟩
  | 3, _ => exact ⟨_, rfl⟩
  | 4, _ => exact ⟨_, rfl⟩
  | 5, _ => exact ⟨_, rfl⟩
theorem am_st_iaload (F : am_fix p R s mm args meth c m) (hA : ∀ q, s.heap.size ≤ q → A q) (hX : am_ext ρ0 L xs A s s.heap) (hK : va_K D am_cl (am_tys τ) s) (h6 : 6 ≤ n0) : am_STEP p l e R s mm args below meth c Q m D τ A L xs n0 ρ0 (.iaload) := by
  intro H locs cells slots pc nx a b cc k lv ls ls' st st' h h' g pc' ρ lsC hok hkd hs hg I hcel hslo kk
  obtain ⟨hx, hb, hml, hown, hts, hfr, hlo, hin⟩ := F
  obtain ⟨hP, hD, hS, hl, hst, hh, hdm, hn0, hρ⟩ := id I
  simp only [am_okb, am_okb1, Bool.and_eq_true, decide_eq_true_eq, and_true] at hok
  try simp only [am_lni] at hok
  obtain ⟨hd, rfl⟩ := hok
  simp only [am_s, am_ald] at hs
  split at hs
  · rename_i i r st2
    split at hs
    · rename_i t n f hget
      split at hs
      · rename_i ht
        cases hs
        have t0 : t = 0 := by simpa using ht
        subst t0
        by_cases hr : 6 ≤ r
        · exact va_iald hx hb hK hP (r - 6) 0 (am_w_get hr hget) rfl hg hd (am_kp I kk hl (am_ss.cn trivial hst.tl.tl))
        · rcases hdm.low (Nat.not_le.mp hr) hget with ⟨-, e⟩ | ⟨-, -, e⟩ | ⟨rfl, e⟩
          · cases e
          · cases e
          · cases e
            have e5 := hρ 5 (by omega)
            obtain ⟨x1, x2, x3⟩ := hX.2.2.2.2.1
            rw [← e5] at x1 x2 x3
            exact va_sld hx hb x1 x2 x3 hS hg hd (am_kp I kk hl (am_ss.cn trivial hst.tl.tl))
      · cases hs
    · cases hs
  · cases hs
theorem am_st_baload (F : am_fix p R s mm args meth c m) (hA : ∀ q, s.heap.size ≤ q → A q) (hX : am_ext ρ0 L xs A s s.heap) (hK : va_K D am_cl (am_tys τ) s) (h6 : 6 ≤ n0) : am_STEP p l e R s mm args below meth c Q m D τ A L xs n0 ρ0 (.baload) := by
  intro H locs cells slots pc nx a b cc k lv ls ls' st st' h h' g pc' ρ lsC hok hkd hs hg I hcel hslo kk
  obtain ⟨hx, hb, hml, hown, hts, hfr, hlo, hin⟩ := F
  obtain ⟨hP, hD, hS, hl, hst, hh, hdm, hn0, hρ⟩ := id I
  simp only [am_okb, am_okb1, Bool.and_eq_true, decide_eq_true_eq, and_true] at hok
  try simp only [am_lni] at hok
  obtain ⟨hd, rfl⟩ := hok
  simp only [am_s, am_ald] at hs
  split at hs
  · rename_i i r st2
    split at hs
    · rename_i t n f hget
      split at hs
      · rename_i ht
        cases hs
        have t0 : t = 1 ∨ t = 2 := by simpa using ht
        by_cases hr : 6 ≤ r
        · rcases t0 with rfl | rfl
          · exact va_bald hx hb hK hP (r - 6) 1 (am_w_get hr hget) rfl hg hd (am_kp I kk hl (am_ss.cn trivial hst.tl.tl))
          · exact va_zald hx hb hK hP (r - 6) 2 (am_w_get hr hget) rfl hg hd (am_kp I kk hl (am_ss.cn trivial hst.tl.tl))
        · rcases t0 with rfl | rfl <;> rcases hdm.low (Nat.not_le.mp hr) hget with ⟨-, e⟩ | ⟨-, -, e⟩ | ⟨-, e⟩ <;> cases e
      · cases hs
    · cases hs
  · cases hs
theorem am_st_laload (F : am_fix p R s mm args meth c m) (hA : ∀ q, s.heap.size ≤ q → A q) (hX : am_ext ρ0 L xs A s s.heap) (hK : va_K D am_cl (am_tys τ) s) (h6 : 6 ≤ n0) : am_STEP p l e R s mm args below meth c Q m D τ A L xs n0 ρ0 (.laload) := by
  intro H locs cells slots pc nx a b cc k lv ls ls' st st' h h' g pc' ρ lsC hok hkd hs hg I hcel hslo kk
  obtain ⟨hx, hb, hml, hown, hts, hfr, hlo, hin⟩ := F
  obtain ⟨hP, hD, hS, hl, hst, hh, hdm, hn0, hρ⟩ := id I
  simp only [am_okb, am_okb1, Bool.and_eq_true, decide_eq_true_eq, and_true] at hok
  try simp only [am_lni] at hok
  obtain ⟨hd, rfl⟩ := hok
  simp only [am_s, am_lald] at hs
  split at hs
  · rename_i i r st2
    split at hs
    · rename_i t n f hget
      split at hs
      · rename_i ht
        cases hs
        have t0 : t = 3 := by simpa using ht
        subst t0
        by_cases hr : 6 ≤ r
        · exact va_lald hx hb hK hP (r - 6) 3 (am_w_get hr hget) rfl hg hd (am_kp I kk hl (am_ss.cn trivial hst.tl.tl))
        · rcases hdm.low (Nat.not_le.mp hr) hget with ⟨-, e⟩ | ⟨-, -, e⟩ | ⟨-, e⟩ <;> cases e
      · cases hs
    · cases hs
  · cases hs
theorem am_st_aaload (F : am_fix p R s mm args meth c m) (hA : ∀ q, s.heap.size ≤ q → A q) (hX : am_ext ρ0 L xs A s s.heap) (hK : va_K D am_cl (am_tys τ) s) (h6 : 6 ≤ n0) : am_STEP p l e R s mm args below meth c Q m D τ A L xs n0 ρ0 (.aaload) := by
  intro H locs cells slots pc nx a b cc k lv ls ls' st st' h h' g pc' ρ lsC hok hkd hs hg I hcel hslo kk
  obtain ⟨hx, hb, hml, hown, hts, hfr, hlo, hin⟩ := F
  obtain ⟨hP, hD, hS, hl, hst, hh, hdm, hn0, hρ⟩ := id I
  simp only [am_okb, am_okb1, Bool.and_eq_true, decide_eq_true_eq, and_true] at hok
  try simp only [am_lni] at hok
  obtain ⟨hd, rfl⟩ := hok
  simp only [am_s, am_aald] at hs
  split at hs
  · rename_i i r st2
    split at hs
    · rename_i t n f hget
      split at hs
      · rename_i ht
        cases hs
        have t0 : 6 ≤ r ∧ (t = 4 ∨ t = 5) := by simpa [Nat.ble_eq] using ht
        obtain ⟨hr, t0⟩ := t0
        have := am_kp I kk hl (am_ss.cn (am_rf_sc (hh _ (am_mem_get hget)) _) hst.tl.tl)
        rw [List.map_cons, am_t_rf] at this
        rcases t0 with rfl | rfl
        · exact va_aldq hx hb hK hP (r - 6) 4 (am_w_get hr hget) rfl hg hd this
        · exact va_aldq hx hb hK hP (r - 6) 5 (am_w_get hr hget) rfl hg hd this
      · cases hs
    · cases hs
  · cases hs
theorem am_st_iastore (F : am_fix p R s mm args meth c m) (hA : ∀ q, s.heap.size ≤ q → A q) (hX : am_ext ρ0 L xs A s s.heap) (hK : va_K D am_cl (am_tys τ) s) (h6 : 6 ≤ n0) : am_STEP p l e R s mm args below meth c Q m D τ A L xs n0 ρ0 (.iastore) := by
  intro H locs cells slots pc nx a b cc k lv ls ls' st st' h h' g pc' ρ lsC hok hkd hs hg I hcel hslo kk
  obtain ⟨hx, hb, hml, hown, hts, hfr, hlo, hin⟩ := F
  obtain ⟨hP, hD, hS, hl, hst, hh, hdm, hn0, hρ⟩ := id I
  simp only [am_okb, am_okb1, Bool.and_eq_true, decide_eq_true_eq, and_true] at hok
  try simp only [am_lni] at hok
  obtain ⟨hd, rfl⟩ := hok
  simp only [am_s, am_iast] at hs
  split at hs
  · rename_i x i r st2
    split at hs
    · rename_i t n f hget
      split at hs
      · rename_i ht
        cases hs
        have t0 : t = 0 ∧ 6 ≤ r := by simpa [Nat.ble_eq] using ht
        obtain ⟨rfl, hr⟩ := t0
        exact va_iast hx hb hK hP hD hS (r - 6) 0 (am_w_get hr hget) rfl hg hd (fun H1 locs1 q1 q2 q3 => am_ks I hr hget kk rfl trivial hst.tl.tl.tl q1 q2 q3)
      · cases hs
    · cases hs
  · cases hs
theorem am_st_bastore (F : am_fix p R s mm args meth c m) (hA : ∀ q, s.heap.size ≤ q → A q) (hX : am_ext ρ0 L xs A s s.heap) (hK : va_K D am_cl (am_tys τ) s) (h6 : 6 ≤ n0) : am_STEP p l e R s mm args below meth c Q m D τ A L xs n0 ρ0 (.bastore) := by
  intro H locs cells slots pc nx a b cc k lv ls ls' st st' h h' g pc' ρ lsC hok hkd hs hg I hcel hslo kk
  obtain ⟨hx, hb, hml, hown, hts, hfr, hlo, hin⟩ := F
  obtain ⟨hP, hD, hS, hl, hst, hh, hdm, hn0, hρ⟩ := id I
  simp only [am_okb, am_okb1, Bool.and_eq_true, decide_eq_true_eq, and_true] at hok
  try simp only [am_lni] at hok
  obtain ⟨hd, rfl⟩ := hok
  simp only [am_s, am_bast] at hs
  split at hs
  · rename_i x i r st2
    split at hs
    · rename_i t n f hget
      split at hs
      · cases hs
        have hr : 6 ≤ r := by
          rcases Nat.lt_or_ge r 6 with hr | hr
          · rcases hdm.low hr hget with ⟨-, e⟩ | ⟨-, -, e⟩ | ⟨-, e⟩ <;> cases e
          · exact hr
        exact va_bast hx hb hK hP hD hS (r - 6) 1 (am_w_get hr hget) rfl hg hd (fun H1 locs1 q1 q2 q3 => am_ks I hr hget kk rfl trivial hst.tl.tl.tl q1 q2 q3)
      · cases hs
        have hr : 6 ≤ r := by
          rcases Nat.lt_or_ge r 6 with hr | hr
          · rcases hdm.low hr hget with ⟨-, e⟩ | ⟨-, -, e⟩ | ⟨-, e⟩ <;> cases e
          · exact hr
        exact va_zast hx hb hK hP hD hS (r - 6) 2 (am_w_get hr hget) rfl hg hd (fun H1 locs1 q1 q2 q3 => am_ks I hr hget kk rfl trivial hst.tl.tl.tl q1 q2 q3)
      · cases hs
    · cases hs
  · cases hs
theorem am_st_lastore (F : am_fix p R s mm args meth c m) (hA : ∀ q, s.heap.size ≤ q → A q) (hX : am_ext ρ0 L xs A s s.heap) (hK : va_K D am_cl (am_tys τ) s) (h6 : 6 ≤ n0) : am_STEP p l e R s mm args below meth c Q m D τ A L xs n0 ρ0 (.lastore) := by
  intro H locs cells slots pc nx a b cc k lv ls ls' st st' h h' g pc' ρ lsC hok hkd hs hg I hcel hslo kk
  obtain ⟨hx, hb, hml, hown, hts, hfr, hlo, hin⟩ := F
  obtain ⟨hP, hD, hS, hl, hst, hh, hdm, hn0, hρ⟩ := id I
  simp only [am_okb, am_okb1, Bool.and_eq_true, decide_eq_true_eq, and_true] at hok
  try simp only [am_lni] at hok
  obtain ⟨hd, rfl⟩ := hok
  simp only [am_s, am_last] at hs
  split at hs
  · rename_i x i r st2
    split at hs
    · rename_i t n f hget
      split at hs
      · rename_i ht
        cases hs
        have t0 : t = 3 := by simpa using ht
        subst t0
        have hr : 6 ≤ r := by
          rcases Nat.lt_or_ge r 6 with hr | hr
          · rcases hdm.low hr hget with ⟨-, e⟩ | ⟨-, -, e⟩ | ⟨-, e⟩ <;> cases e
          · exact hr
        exact va_last hx hb hK hP hD hS (r - 6) 3 (am_w_get hr hget) rfl hg hd (fun H1 locs1 q1 q2 q3 => am_ks I hr hget kk rfl trivial hst.tl.tl.tl q1 q2 q3)
      · cases hs
    · cases hs
  · cases hs
theorem am_st_aastore (F : am_fix p R s mm args meth c m) (hA : ∀ q, s.heap.size ≤ q → A q) (hX : am_ext ρ0 L xs A s s.heap) (hK : va_K D am_cl (am_tys τ) s) (h6 : 6 ≤ n0) : am_STEP p l e R s mm args below meth c Q m D τ A L xs n0 ρ0 (.aastore) := by
  intro H locs cells slots pc nx a b cc k lv ls ls' st st' h h' g pc' ρ lsC hok hkd hs hg I hcel hslo kk
  obtain ⟨hx, hb, hml, hown, hts, hfr, hlo, hin⟩ := F
  obtain ⟨hP, hD, hS, hl, hst, hh, hdm, hn0, hρ⟩ := id I
  simp only [am_okb, am_okb1, Bool.and_eq_true, decide_eq_true_eq, and_true] at hok
  try simp only [am_lni] at hok
  obtain ⟨hd, rfl⟩ := hok
  simp only [am_s, am_aast] at hs
  split at hs
  · rename_i v i r st2
    split at hs
    · rename_i t n f hget
      split at hs
      · rename_i ci fs hgv
        split at hs
        · rename_i ht
          cases hs
          have t0 : ((t = 4 ∧ ci = 9) ∨ (t = 5 ∧ ci = 2)) ∧ 6 ≤ r ∧ 6 ≤ v := by simpa [Nat.ble_eq, am_cast, and_assoc] using ht
          obtain ⟨t0, hr, hv⟩ := t0
          have hsc := am_sc_up (k := i.toNatClampNeg) (o := some v) (hh _ (am_mem_get hget)) (fun w hw => by cases hw; exact hst.hd)
          have hev := am_w_get (ρ := ρ) (τ := τ) hv hgv
          rcases t0 with ⟨rfl, rfl⟩ | ⟨rfl, rfl⟩
          · exact va_astqM hx hb hK hP hD hS (r - 6) 4 (am_w_get hr hget) rfl (va_rAny (r := ("TextIndices$Part", F_Pa, 5)) hK hP hev rfl (vb_asgC (hX.2.2.2.2.2.1 _ (by simp [am_NW])))) hg hd (fun H1 locs1 q1 q2 q3 => am_ks I hr hget kk rfl hsc hst.tl.tl.tl (by rw [am_tc_up]; exact q1) (by rw [am_tc_up]; exact q2) q3)
          · exact va_astq (r := ("TextIndices$Language", F_La, 6)) hx hb hK hP hD hS (r - 6) 5 (v - 6) 2 (am_w_get hr hget) rfl hev rfl hg hd (fun H1 locs1 q1 q2 q3 => am_ks I hr hget kk rfl hsc hst.tl.tl.tl (by rw [am_tc_up]; exact q1) (by rw [am_tc_up]; exact q2) q3)
        · cases hs
      · cases hs
    · cases hs
  · rename_i i r st2
    split at hs
    · rename_i t n f hget
      split at hs
      · rename_i ht
        cases hs
        have t0 : 6 ≤ r ∧ (t = 4 ∨ t = 5) := by simpa [Nat.ble_eq] using ht
        obtain ⟨hr, t0⟩ := t0
        have hsc := am_sc_up (k := i.toNatClampNeg) (o := none) (hh _ (am_mem_get hget)) (fun w hw => by cases hw)
        rcases t0 with rfl | rfl
        · exact va_astqN hx hb hK hP hD hS (r - 6) 4 (am_w_get hr hget) rfl hg hd (fun H1 locs1 q1 q2 q3 => am_ks I hr hget kk rfl hsc hst.tl.tl.tl (by rw [am_tc_up]; exact q1) (by rw [am_tc_up]; exact q2) q3)
        · exact va_astqN hx hb hK hP hD hS (r - 6) 5 (am_w_get hr hget) rfl hg hd (fun H1 locs1 q1 q2 q3 => am_ks I hr hget kk rfl hsc hst.tl.tl.tl (by rw [am_tc_up]; exact q1) (by rw [am_tc_up]; exact q2) q3)
      · cases hs
    · cases hs
  · cases hs
theorem am_st_arraylength (F : am_fix p R s mm args meth c m) (hA : ∀ q, s.heap.size ≤ q → A q) (hX : am_ext ρ0 L xs A s s.heap) (hK : va_K D am_cl (am_tys τ) s) (h6 : 6 ≤ n0) : am_STEP p l e R s mm args below meth c Q m D τ A L xs n0 ρ0 (.arraylength) := by
  intro H locs cells slots pc nx a b cc k lv ls ls' st st' h h' g pc' ρ lsC hok hkd hs hg I hcel hslo kk
  obtain ⟨hx, hb, hml, hown, hts, hfr, hlo, hin⟩ := F
  obtain ⟨hP, hD, hS, hl, hst, hh, hdm, hn0, hρ⟩ := id I
  simp only [am_okb, am_okb1, Bool.and_eq_true, decide_eq_true_eq, and_true] at hok
  try simp only [am_lni] at hok
  obtain ⟨hd, rfl⟩ := hok
  simp only [am_s, am_alen] at hs
  split at hs
  · rename_i r st2
    split at hs
    · rename_i t n y hget
      split at hs
      · rename_i ht
        cases hs
        have t5 : t ≤ 5 := Nat.le_of_ble_eq_true ht
        by_cases hr : 6 ≤ r
        · obtain ⟨ty, hty⟩ := am_tys_at (τ := τ) t5
          obtain ⟨y', hy'⟩ := am_cell_x (ρ := ρ) (τ := τ) (t := t) (n := n) (y := y)
          have he := am_w_get (ρ := ρ) (τ := τ) hr hget
          rw [hy'] at he
          exact va_alen hx hb hK hP (r - 6) t he hty rfl hd (am_kp I kk hl (am_ss.cn trivial hst.tl))
        · rcases hdm.low (Nat.not_le.mp hr) hget with ⟨rfl, e⟩ | ⟨-, -, e⟩ | ⟨rfl, e⟩
          · cases e
            have e0 := hρ 0 (by omega)
            obtain ⟨f, hT⟩ := hX.2.1
            rw [← e0] at hT
            exact va_tlen hx hb hT hS rfl hd (am_kp I kk hl (am_ss.cn trivial hst.tl))
          · cases e
          · cases e
            have e5 := hρ 5 (by omega)
            obtain ⟨x1, x2, x3⟩ := hX.2.2.2.2.1
            rw [← e5] at x1 x2 x3
            exact va_slen hx hb x1 x2 x3 hS hd (am_kp I kk hl (am_ss.cn trivial hst.tl))
      · cases hs
    · cases hs
  · cases hs
theorem am_st_newa_int (F : am_fix p R s mm args meth c m) (hA : ∀ q, s.heap.size ≤ q → A q) (hX : am_ext ρ0 L xs A s s.heap) (hK : va_K D am_cl (am_tys τ) s) (h6 : 6 ≤ n0) : am_STEP p l e R s mm args below meth c Q m D τ A L xs n0 ρ0 (.newarray .int) := by
  intro H locs cells slots pc nx a b cc k lv ls ls' st st' h h' g pc' ρ lsC hok hkd hs hg I hcel hslo kk
  obtain ⟨hx, hb, hml, hown, hts, hfr, hlo, hin⟩ := F
  obtain ⟨hP, hD, hS, hl, hst, hh, hdm, hn0, hρ⟩ := id I
  simp only [am_okb, am_okb1, Bool.and_eq_true, decide_eq_true_eq, and_true] at hok
  try simp only [am_lni] at hok
  obtain ⟨⟨hd, rfl⟩, ht, -⟩ := hok
  have ht : a = 0 := ht.symm
  subst ht
  simp only [am_s, am_newa] at hs
  split at hs
  · rename_i n st2
    cases hs
    have e1 : (h ++ [am_zero 0 n.toNatClampNeg]).length - h.length = 1 := by simp
    have e2 : am_sz (h ++ [am_zero 0 n.toNatClampNeg]) - am_sz h = n.toNatClampNeg := by rw [am_sz_push]; show _ + n.toNatClampNeg - _ = _; omega
    rw [e1] at hcel
    rw [e2] at hslo
    refine va_newa (atype := .int) (a0 := (n.toNatClampNeg, .inl fun _ => 0)) hx hb (hts _ am_ac_int) rfl hK hP hD hS hA (fun _ => rfl) hg.1 rfl (by show _ * 4 ≤ _; have := hg.2; omega) hcel hslo hd (fun q cA H1 hK1 hP1 hD1 hS1 => ?_)
    have hc : cA = τ 0 := am_cA (hK1.2 6 (cA, _) rfl).2 (hK.2 0 (τ 0, _) rfl).2
    subst hc
    exact am_kn (c1 := am_zero 0 n.toNatClampNeg) I trivial kk hst.tl rfl hP1 hD1 hS1
  · cases hs
theorem am_st_newa_byte (F : am_fix p R s mm args meth c m) (hA : ∀ q, s.heap.size ≤ q → A q) (hX : am_ext ρ0 L xs A s s.heap) (hK : va_K D am_cl (am_tys τ) s) (h6 : 6 ≤ n0) : am_STEP p l e R s mm args below meth c Q m D τ A L xs n0 ρ0 (.newarray .byte) := by
  intro H locs cells slots pc nx a b cc k lv ls ls' st st' h h' g pc' ρ lsC hok hkd hs hg I hcel hslo kk
  obtain ⟨hx, hb, hml, hown, hts, hfr, hlo, hin⟩ := F
  obtain ⟨hP, hD, hS, hl, hst, hh, hdm, hn0, hρ⟩ := id I
  simp only [am_okb, am_okb1, Bool.and_eq_true, decide_eq_true_eq, and_true] at hok
  try simp only [am_lni] at hok
  obtain ⟨⟨hd, rfl⟩, ht, -⟩ := hok
  have ht : a = 1 := ht.symm
  subst ht
  simp only [am_s, am_newa] at hs
  split at hs
  · rename_i n st2
    cases hs
    have e1 : (h ++ [am_zero 1 n.toNatClampNeg]).length - h.length = 1 := by simp
    have e2 : am_sz (h ++ [am_zero 1 n.toNatClampNeg]) - am_sz h = n.toNatClampNeg := by rw [am_sz_push]; show _ + n.toNatClampNeg - _ = _; omega
    rw [e1] at hcel
    rw [e2] at hslo
    refine va_newa (atype := .byte) (a0 := (n.toNatClampNeg, .inl fun _ => 0)) hx hb (hts _ am_ac_byte) rfl hK hP hD hS hA (fun _ => rfl) hg.1 rfl (by show _ * 1 ≤ _; have := hg.2; omega) hcel hslo hd (fun q cA H1 hK1 hP1 hD1 hS1 => ?_)
    have hc : cA = τ 1 := am_cA (hK1.2 6 (cA, _) rfl).2 (hK.2 1 (τ 1, _) rfl).2
    subst hc
    exact am_kn (c1 := am_zero 1 n.toNatClampNeg) I trivial kk hst.tl rfl hP1 hD1 hS1
  · cases hs
theorem am_st_newa_boolean (F : am_fix p R s mm args meth c m) (hA : ∀ q, s.heap.size ≤ q → A q) (hX : am_ext ρ0 L xs A s s.heap) (hK : va_K D am_cl (am_tys τ) s) (h6 : 6 ≤ n0) : am_STEP p l e R s mm args below meth c Q m D τ A L xs n0 ρ0 (.newarray .boolean) := by
  intro H locs cells slots pc nx a b cc k lv ls ls' st st' h h' g pc' ρ lsC hok hkd hs hg I hcel hslo kk
  obtain ⟨hx, hb, hml, hown, hts, hfr, hlo, hin⟩ := F
  obtain ⟨hP, hD, hS, hl, hst, hh, hdm, hn0, hρ⟩ := id I
  simp only [am_okb, am_okb1, Bool.and_eq_true, decide_eq_true_eq, and_true] at hok
  try simp only [am_lni] at hok
  obtain ⟨⟨hd, rfl⟩, ht, -⟩ := hok
  have ht : a = 2 := ht.symm
  subst ht
  simp only [am_s, am_newa] at hs
  split at hs
  · rename_i n st2
    cases hs
    have e1 : (h ++ [am_zero 2 n.toNatClampNeg]).length - h.length = 1 := by simp
    have e2 : am_sz (h ++ [am_zero 2 n.toNatClampNeg]) - am_sz h = n.toNatClampNeg := by rw [am_sz_push]; show _ + n.toNatClampNeg - _ = _; omega
    rw [e1] at hcel
    rw [e2] at hslo
    refine va_newa (atype := .boolean) (a0 := (n.toNatClampNeg, .inl fun _ => 0)) hx hb (hts _ am_ac_boolean) rfl hK hP hD hS hA (fun _ => rfl) hg.1 rfl (by show _ * 1 ≤ _; have := hg.2; omega) hcel hslo hd (fun q cA H1 hK1 hP1 hD1 hS1 => ?_)
    have hc : cA = τ 2 := am_cA (hK1.2 6 (cA, _) rfl).2 (hK.2 2 (τ 2, _) rfl).2
    subst hc
    exact am_kn (c1 := am_zero 2 n.toNatClampNeg) I trivial kk hst.tl rfl hP1 hD1 hS1
  · cases hs
theorem am_st_newa_long (F : am_fix p R s mm args meth c m) (hA : ∀ q, s.heap.size ≤ q → A q) (hX : am_ext ρ0 L xs A s s.heap) (hK : va_K D am_cl (am_tys τ) s) (h6 : 6 ≤ n0) : am_STEP p l e R s mm args below meth c Q m D τ A L xs n0 ρ0 (.newarray .long) := by
  intro H locs cells slots pc nx a b cc k lv ls ls' st st' h h' g pc' ρ lsC hok hkd hs hg I hcel hslo kk
  obtain ⟨hx, hb, hml, hown, hts, hfr, hlo, hin⟩ := F
  obtain ⟨hP, hD, hS, hl, hst, hh, hdm, hn0, hρ⟩ := id I
  simp only [am_okb, am_okb1, Bool.and_eq_true, decide_eq_true_eq, and_true] at hok
  try simp only [am_lni] at hok
  obtain ⟨⟨hd, rfl⟩, ht, -⟩ := hok
  have ht : a = 3 := ht.symm
  subst ht
  simp only [am_s, am_newa] at hs
  split at hs
  · rename_i n st2
    cases hs
    have e1 : (h ++ [am_zero 3 n.toNatClampNeg]).length - h.length = 1 := by simp
    have e2 : am_sz (h ++ [am_zero 3 n.toNatClampNeg]) - am_sz h = n.toNatClampNeg := by rw [am_sz_push]; show _ + n.toNatClampNeg - _ = _; omega
    rw [e1] at hcel
    rw [e2] at hslo
    refine va_newa (atype := .long) (a0 := (n.toNatClampNeg, .inr (.inl fun _ => 0))) hx hb (hts _ am_ac_long) rfl hK hP hD hS hA (fun _ => rfl) hg.1 rfl (by show _ * 8 ≤ _; have := hg.2; omega) hcel hslo hd (fun q cA H1 hK1 hP1 hD1 hS1 => ?_)
    have hc : cA = τ 3 := am_cA (hK1.2 6 (cA, _) rfl).2 (hK.2 3 (τ 3, _) rfl).2
    subst hc
    exact am_kn (c1 := am_zero 3 n.toNatClampNeg) I trivial kk hst.tl rfl hP1 hD1 hS1
  · cases hs
theorem am_st_anewarray (F : am_fix p R s mm args meth c m) (hA : ∀ q, s.heap.size ≤ q → A q) (hX : am_ext ρ0 L xs A s s.heap) (hK : va_K D am_cl (am_tys τ) s) (h6 : 6 ≤ n0) {x : Nat} : am_STEP p l e R s mm args below meth c Q m D τ A L xs n0 ρ0 (.anewarray x) := by
  intro H locs cells slots pc nx a b cc k lv ls ls' st st' h h' g pc' ρ lsC hok hkd hs hg I hcel hslo kk
  obtain ⟨hx, hb, hml, hown, hts, hfr, hlo, hin⟩ := F
  obtain ⟨hP, hD, hS, hl, hst, hh, hdm, hn0, hρ⟩ := id I
  simp only [am_okb, am_okb1, Bool.and_eq_true, decide_eq_true_eq, and_true] at hok
  try simp only [am_lni] at hok
  obtain ⟨⟨hd, rfl⟩, hq⟩ := hok
  simp only [am_s, am_newq] at hs
  split at hs
  · rename_i n st2
    cases hs
    have e1 : (h ++ [(Sum.inl (a, (n.toNatClampNeg, .inr (.inr (.inr (.inr fun _ => none))))) : am_C)]).length - h.length = 1 := by simp
    have e2 : am_sz (h ++ [(Sum.inl (a, (n.toNatClampNeg, .inr (.inr (.inr (.inr fun _ => none))))) : am_C)]) - am_sz h = n.toNatClampNeg := by rw [am_sz_push]; show _ + n.toNatClampNeg - _ = _; omega
    rw [e1] at hcel
    rw [e2] at hslo
    obtain ⟨C, hC, hlk, -⟩ := am_QL_ok _ hq
    have hb4 : n.toNatClampNeg * 4 ≤ 536870912 := by have := hg.2; omega
    have key : ∀ (C' : String) (t : Nat), (am_tys τ)[t]? = some (τ t, .object C') → a = t → C = C' → va_AO C' s → W p l e R s mm args below meth c H locs cells slots Q (F0 mm pc lsC ((Value.int n :: st2).map (am_t ρ))) := by
      intro C' t ht ea eC hao
      subst ea eC
      refine va_newq hx hb hown (hts _ hlk) hao hK hP hD hS hA hg.1 rfl hb4 hcel hslo hd (fun q cA H1 hK1 hP1 hD1 hS1 => ?_)
      have hc : cA = τ a := am_cA (hK1.2 6 (cA, _) rfl).2 (hK.2 a (τ a, _) ht).2
      subst hc
      exact am_kn (c1 := .inl (a, (n.toNatClampNeg, .inr (.inr (.inr (.inr fun _ => none)))))) I (fun i v hv => by cases hv) kk hst.tl rfl hP1 hD1 hS1
    match a, hC with
    | 0, hC => cases hC
    | 1, hC => cases hC
    | 2, hC => cases hC
    | 3, hC => cases hC
    | 4, hC => cases hC; exact key _ 4 rfl rfl rfl hX.2.2.2.2.2.2.2.1
    | 5, hC => cases hC; exact key _ 5 rfl rfl rfl hX.2.2.2.2.2.2.2.2
    | j + 6, hC => simp [am_TY] at hC
  · cases hs
theorem am_st_new (F : am_fix p R s mm args meth c m) (hA : ∀ q, s.heap.size ≤ q → A q) (hX : am_ext ρ0 L xs A s s.heap) (hK : va_K D am_cl (am_tys τ) s) (h6 : 6 ≤ n0) {x : Nat} : am_STEP p l e R s mm args below meth c Q m D τ A L xs n0 ρ0 (.new x) := by
  intro H locs cells slots pc nx a b cc k lv ls ls' st st' h h' g pc' ρ lsC hok hkd hs hg I hcel hslo kk
  obtain ⟨hx, hb, hml, hown, hts, hfr, hlo, hin⟩ := F
  obtain ⟨hP, hD, hS, hl, hst, hh, hdm, hn0, hρ⟩ := id I
  simp only [am_okb, am_okb1, Bool.and_eq_true, decide_eq_true_eq, and_true] at hok
  try simp only [am_lni] at hok
  obtain ⟨⟨hd, rfl⟩, hq⟩ := hok
  simp only [am_s] at hs
  cases hs
  obtain ⟨C, T, N, hc, hlk⟩ := am_NL_ok _ hq
  obtain ⟨k1, k2, k3, k4, k5, k6, k7⟩ := am_okC_all a C T N hc
  have e1 : (h ++ [(Sum.inr (a, am_df a) : am_C)]).length - h.length = 1 := by simp
  have e2 : am_sz (h ++ [(Sum.inr (a, am_df a) : am_C)]) - am_sz h = N := by rw [am_sz_push]; show _ + (am_df a).length - _ = _; omega
  rw [e1] at hcel
  rw [e2] at hslo
  refine va_new (N := N) hx hb hts k1 (am_ft a) k2 hown (hts _ hlk) (hts _ k4) (hts _ k5) hK hP hD hS hA hc k7 hcel hslo hd (fun q H1 hP1 hD1 hS1 => ?_)
  have := am_kn (c1 := .inr (a, am_df a)) I (am_df_sc a _) kk hst (q := q) (e1 := .inr (a, am_df a)) (by simp only [am_tc]; rw [am_df_t]) hP1 hD1 hS1
  have e3 : am_z (.inr (a, am_df a)) = N := k6
  rw [e3] at this
  exact this
theorem am_st_getfield (F : am_fix p R s mm args meth c m) (hA : ∀ q, s.heap.size ≤ q → A q) (hX : am_ext ρ0 L xs A s s.heap) (hK : va_K D am_cl (am_tys τ) s) (h6 : 6 ≤ n0) {x : Nat} : am_STEP p l e R s mm args below meth c Q m D τ A L xs n0 ρ0 (.getfield x) := by
  intro H locs cells slots pc nx a b cc k lv ls ls' st st' h h' g pc' ρ lsC hok hkd hs hg I hcel hslo kk
  obtain ⟨hx, hb, hml, hown, hts, hfr, hlo, hin⟩ := F
  obtain ⟨hP, hD, hS, hl, hst, hh, hdm, hn0, hρ⟩ := id I
  simp only [am_okb, am_okb1, Bool.and_eq_true, decide_eq_true_eq, and_true] at hok
  try simp only [am_lni] at hok
  obtain ⟨⟨hd, rfl⟩, hq⟩ := hok
  simp only [am_s, am_getf] at hs
  split at hs
  · rename_i r st2
    obtain ⟨C, T, N, ref, hc, hk, hlk, hsm⟩ := am_FL_ok _ hq
    obtain ⟨k1, k2, k3, k4, k5, k6, k7⟩ := am_okC_all a C T N hc
    have hsame : ∀ x, s.fieldFound? (T b).1 (T b).2.1 (T b).2.2.1 = some x → s.fieldFound? ref (T b).2.1 (T b).2.2.1 = some x := by
      rcases hsm with hsm | hsm
      · rw [hsm]; exact fun _ q => q
      · exact fun y q => u_same (hts _ hsm) y q
    split at hs
    · rename_i ci fs hget
      split at hs
      · rename_i ht
        have t0 : ci = a := Nat.eq_of_beq_eq_true ht
        subst t0
        split at hs
        · rename_i v hv
          cases hs
          by_cases hr : 6 ≤ r
          · exact va_get hx hb hts k1 hown hK hP (r - 6) (am_w_get hr hget) hc b hk (hts _ hlk) hsame (by rw [List.getElem?_map, ← am_get_eq, hv]; rfl) hd (am_kp I kk hl (am_ss.cn (hh _ (am_mem_get hget) v (am_mem_get hv)) hst.tl))
          · rcases hdm.low (Nat.not_le.mp hr) hget with ⟨-, e⟩ | ⟨-, -, e⟩ | ⟨-, e⟩
            · cases e
            · cases e; cases hv
            · cases e
        · cases hs
      · cases hs
    · cases hs
  · cases hs
theorem am_st_putfield (F : am_fix p R s mm args meth c m) (hA : ∀ q, s.heap.size ≤ q → A q) (hX : am_ext ρ0 L xs A s s.heap) (hK : va_K D am_cl (am_tys τ) s) (h6 : 6 ≤ n0) {x : Nat} : am_STEP p l e R s mm args below meth c Q m D τ A L xs n0 ρ0 (.putfield x) := by
  intro H locs cells slots pc nx a b cc k lv ls ls' st st' h h' g pc' ρ lsC hok hkd hs hg I hcel hslo kk
  obtain ⟨hx, hb, hml, hown, hts, hfr, hlo, hin⟩ := F
  obtain ⟨hP, hD, hS, hl, hst, hh, hdm, hn0, hρ⟩ := id I
  simp only [am_okb, am_okb1, Bool.and_eq_true, decide_eq_true_eq, and_true] at hok
  try simp only [am_lni] at hok
  obtain ⟨⟨hd, rfl⟩, hq, hfi⟩ := hok
  simp only [am_s] at hs
  split at hs
  · rename_i v r st2
    obtain ⟨C, T, N, ref, hc, hk, hlk, hsm⟩ := am_FL_ok _ hq
    obtain ⟨k1, k2, k3, k4, k5, k6, k7⟩ := am_okC_all a C T N hc
    have hsame : ∀ x, s.fieldFound? (T b).1 (T b).2.1 (T b).2.2.1 = some x → s.fieldFound? ref (T b).2.1 (T b).2.2.1 = some x := by
      rcases hsm with hsm | hsm
      · rw [hsm]; exact fun _ q => q
      · exact fun y q => u_same (hts _ hsm) y q
    split at hs
    · rename_i ci fs hget
      split at hs
      · rename_i ht
        have t0 : ci = a := Nat.eq_of_beq_eq_true ht
        subst t0
        split at hs
        · rename_i v0 hv
          cases hs
          have hr : 6 ≤ r := by
            rcases Nat.lt_or_ge r 6 with hr | hr
            · rcases hdm.low hr hget with ⟨-, e⟩ | ⟨-, -, e⟩ | ⟨-, e⟩
              · cases e
              · cases e; cases hv
              · cases e
            · exact hr
          obtain ⟨f1, f2⟩ := am_fg_ok (ρ := ρ) hg
          have hlen : b < (fs.map (am_t ρ)).length := by rw [List.length_map]; exact am_get_lt hv
          have hsc : am_scc h.length (.inr (ci, am_set fs b v)) := by
            intro w hw
            rw [am_set_eq] at hw
            rcases List.mem_or_eq_of_mem_set hw with hw | rfl
            · exact hh _ (am_mem_get hget) w hw
            · exact hst.hd
          have hz : am_z (.inr (ci, am_set fs b v)) = am_z (.inr (ci, fs)) := am_len_set fs b v
          cases hT : (T b).2.2.2 with
          | false =>
            exact va_put hx hb hts k1 (am_ft ci) k2 k3 hown hK hP hD hS (r - 6) (am_w_get hr hget) hc b hk (hts _ hlk) hsame hT (k2 b hk) f1 f2 hlen hd (fun H1 locs1 q1 q2 q3 => am_ks I hr hget kk hz hsc hst.tl.tl (by rw [am_tc_set]; exact q1) (by rw [am_tc_set]; exact q2) q3)
          | true =>
            have e1 : am_fin ci b = true := by simp only [am_fin, hc, hT]
            have e2 : am_dcl ci b = (T b).1 := by simp only [am_dcl, hc]
            rw [e1, e2] at hfi
            simp only [Bool.not_true, Bool.false_or, Bool.and_eq_true, decide_eq_true_eq] at hfi
            exact va_putF hx hb hts k1 (am_ft ci) k2 k3 hown hK hP hD hS (r - 6) (am_w_get hr hget) hc b hk (hts _ hlk) hsame hT (hin hfi.1) hfi.2 (k2 b hk) f1 f2 hlen hd (fun H1 locs1 q1 q2 q3 => am_ks I hr hget kk hz hsc hst.tl.tl (by rw [am_tc_set]; exact q1) (by rw [am_tc_set]; exact q2) q3)
        · cases hs
      · cases hs
    · cases hs
  · cases hs
theorem am_st_checkcast (F : am_fix p R s mm args meth c m) (hA : ∀ q, s.heap.size ≤ q → A q) (hX : am_ext ρ0 L xs A s s.heap) (hK : va_K D am_cl (am_tys τ) s) (h6 : 6 ≤ n0) {x : Nat} : am_STEP p l e R s mm args below meth c Q m D τ A L xs n0 ρ0 (.checkcast x) := by
  intro H locs cells slots pc nx a b cc k lv ls ls' st st' h h' g pc' ρ lsC hok hkd hs hg I hcel hslo kk
  obtain ⟨hx, hb, hml, hown, hts, hfr, hlo, hin⟩ := F
  obtain ⟨hP, hD, hS, hl, hst, hh, hdm, hn0, hρ⟩ := id I
  simp only [am_okb, am_okb1, Bool.and_eq_true, decide_eq_true_eq, and_true] at hok
  try simp only [am_lni] at hok
  obtain ⟨⟨hd, rfl⟩, hq⟩ := hok
  simp only [am_s, am_chk] at hs
  split at hs
  · rename_i r st2
    split at hs
    · rename_i ci fs hget
      split at hs
      · rename_i ht
        cases hs
        have t0 : ci = a ∧ 6 ≤ r := by simpa [Nat.ble_eq] using ht
        obtain ⟨rfl, hr⟩ := t0
        have he := am_w_get (ρ := ρ) (τ := τ) hr hget
        simp only [Bool.or_eq_true, decide_eq_true_eq] at hq
        rcases hq with rfl | hq
        · obtain ⟨r0, h1, -⟩ := hP _ _ he
          cases h1
        · obtain ⟨C, T, N, hc, hlk⟩ := am_NL_ok _ hq
          exact va_castS hx hb hown (hts _ hlk) (hK.1 _ _ hc).2 (va_recv hK hP hc he) hd (am_kp I kk hl (am_ss.cn hst.hd hst.tl))
      · cases hs
    · cases hs
  · cases hs
theorem am_kd5 {x b : Nat} (h : am_kd (.invokevirtual x) b = 0) : b = 5 := by
  simp only [am_kd] at h
  split at h
  · cases h
  · rfl
  · cases h
theorem am_kd4 {x b : Nat} (h : am_kd (.invokespecial x) b = 0) : b = 4 := by
  simp only [am_kd] at h
  split at h
  · cases h
  · cases h
  · rfl
  · cases h
theorem am_kd678 {x b : Nat} (h : am_kd (.invokestatic x) b = 0) : b = 6 ∨ b = 7 ∨ b = 8 := by
  simp only [am_kd] at h
  split at h
  · cases h
  · exact Or.inl rfl
  · exact Or.inr (Or.inl rfl)
  · exact Or.inr (Or.inr rfl)
  · cases h
theorem am_st_getclass (F : am_fix p R s mm args meth c m) (hA : ∀ q, s.heap.size ≤ q → A q) (hX : am_ext ρ0 L xs A s s.heap) (hK : va_K D am_cl (am_tys τ) s) (h6 : 6 ≤ n0) {x : Nat} : am_STEP p l e R s mm args below meth c Q m D τ A L xs n0 ρ0 (.invokevirtual x) := by
  intro H locs cells slots pc nx a b cc k lv ls ls' st st' h h' g pc' ρ lsC hok hkd hs hg I hcel hslo kk
  obtain ⟨hx, hb, hml, hown, hts, hfr, hlo, hin⟩ := F
  obtain ⟨hP, hD, hS, hl, hst, hh, hdm, hn0, hρ⟩ := id I
  simp only [am_okb, am_okb1, Bool.and_eq_true, decide_eq_true_eq, and_true] at hok
  try simp only [am_lni] at hok
  have b5 := am_kd5 hkd
  subst b5
  simp only [Bool.and_eq_true, decide_eq_true_eq] at hok
  obtain ⟨⟨hd, rfl⟩, ⟨hq, w1⟩, w2⟩ := hok
  simp only [am_s, am_getc] at hs
  split at hs
  · rename_i r st2
    split at hs
    · rename_i t y hget
      split at hs
      · rename_i ht
        cases hs
        have t0 : (t = 4 ∧ 6 ≤ r) ∧ am_room st2 = true := by simpa [Nat.ble_eq] using ht
        obtain ⟨⟨rfl, hr⟩, hrm⟩ := t0
        obtain ⟨n, y⟩ := y
        obtain ⟨y', hy'⟩ := am_cell_x (ρ := ρ) (τ := τ) (t := 4) (n := n) (y := y)
        have he := am_w_get (ρ := ρ) (τ := τ) hr hget
        rw [hy'] at he
        have hcell : H[ρ r]? = some (vp_cell (τ 4) (n, y')) := hP _ _ he
        have hcls : s.vm.findClass "[Ljava/lang/Object;" = some (τ 4) := va_nmO (hK.2 4 (τ 4, _) rfl).2 (by decide)
        have e4 := hρ 4 (by omega)
        have hrl := am_room_le (ρ := ρ) hrm
        exact va_getC (C := "[Ljava/lang/Object;") (mi := ρ 4) hx hb (hml.trans hl.1.symm) hown (hts _ (am_GC_ok _ hq)) hX.2.2.2.2.2.2.1.use (hts _ am_w_gc.2.1) (hts _ am_w_gc.2.2.1) (hts _ am_w_gc.2.2.2) (by rw [e4]; exact hX.2.2.2.1) ⟨_, hcell, by rcases y' with f | f | f | f | f <;> rfl, by rw [hcls]; rcases y' with f | f | f | f | f <;> rfl⟩ (by omega) (by omega) hd (am_kp I kk hl (am_ss.cn (v := .ref 4) (Nat.lt_of_lt_of_le (by decide) hdm.1) hst.tl))
      · cases hs
    · cases hs
  · cases hs
theorem am_st_objinit (F : am_fix p R s mm args meth c m) (hA : ∀ q, s.heap.size ≤ q → A q) (hX : am_ext ρ0 L xs A s s.heap) (hK : va_K D am_cl (am_tys τ) s) (h6 : 6 ≤ n0) {x : Nat} : am_STEP p l e R s mm args below meth c Q m D τ A L xs n0 ρ0 (.invokespecial x) := by
  intro H locs cells slots pc nx a b cc k lv ls ls' st st' h h' g pc' ρ lsC hok hkd hs hg I hcel hslo kk
  obtain ⟨hx, hb, hml, hown, hts, hfr, hlo, hin⟩ := F
  obtain ⟨hP, hD, hS, hl, hst, hh, hdm, hn0, hρ⟩ := id I
  simp only [am_okb, am_okb1, Bool.and_eq_true, decide_eq_true_eq, and_true] at hok
  try simp only [am_lni] at hok
  have b4 := am_kd4 hkd
  subst b4
  simp only [Bool.and_eq_true, decide_eq_true_eq, am_prim_ok] at hok
  obtain ⟨⟨hd, rfl⟩, hq, w1, w2⟩ := hok
  simp only [am_s] at hs
  split at hs
  · rename_i r st2
    split at hs
    · rename_i hrm
      cases hs
      have hrl := am_room_le (ρ := ρ) hrm
      have hrm2 := lv_room (m := mm) (pc := pc) (ls := lsC) (rest := (Value.ref r :: st').map (am_t ρ)) (am_room_le (ρ := ρ) hrm)
      have hl2 : 8 + 12 ≤ R.locals := Nat.le_trans w2 hlo
      exact W.objInit (g := F0 mm pc lsC ((Value.ref r :: st').map (am_t ρ))) (rest := st'.map (am_t ρ)) hx hb hown (hts _ (am_OI_ok _ hq)) (hts _ am_w_obj.1) (hts _ am_w_obj.2) rfl (hl.1.trans hml.symm) rfl hd (Nat.le_trans w1 hfr) (Nat.le_trans (Nat.add_le_add_right hrm2 12) hl2) (W.eq (g2 := F0 mm (pc + 3) lsC (st'.map (am_t ρ))) rfl (am_kp I kk hl hst.tl))
    · cases hs
  · cases hs
theorem am_st_static (F : am_fix p R s mm args meth c m) (hA : ∀ q, s.heap.size ≤ q → A q) (hX : am_ext ρ0 L xs A s s.heap) (hK : va_K D am_cl (am_tys τ) s) (h6 : 6 ≤ n0) {x : Nat} : am_STEP p l e R s mm args below meth c Q m D τ A L xs n0 ρ0 (.invokestatic x) := by
  intro H locs cells slots pc nx a b cc k lv ls ls' st st' h h' g pc' ρ lsC hok hkd hs hg I hcel hslo kk
  obtain ⟨hx, hb, hml, hown, hts, hfr, hlo, hin⟩ := F
  obtain ⟨hP, hD, hS, hl, hst, hh, hdm, hn0, hρ⟩ := id I
  simp only [am_okb, am_okb1, Bool.and_eq_true, decide_eq_true_eq, and_true] at hok
  try simp only [am_lni] at hok
  rcases am_kd678 hkd with rfl | rfl | rfl
  · simp only [Bool.and_eq_true, decide_eq_true_eq] at hok
    obtain ⟨⟨hd, rfl⟩, ⟨hq, w1⟩, w2⟩ := hok
    simp only [am_s, am_cpy] at hs
    split at hs
    · rename_i n dp r1 sp r0 st2
      split at hs
      · rename_i n0' f n1 g1 hrm hget0 hget1
        cases hs
        obtain ⟨g1', g2', g3', g4', g5'⟩ := hg
        have hr0 : 6 ≤ r0 := by
          rcases Nat.lt_or_ge r0 6 with hr | hr
          · rcases hdm.low hr hget0 with ⟨-, e⟩ | ⟨-, -, e⟩ | ⟨-, e⟩ <;> cases e
          · exact hr
        have hr1 : 6 ≤ r1 := by
          rcases Nat.lt_or_ge r1 6 with hr | hr
          · rcases hdm.low hr hget1 with ⟨-, e⟩ | ⟨-, -, e⟩ | ⟨-, e⟩ <;> cases e
          · exact hr
        have hrl := am_room_le (ρ := ρ) hrm
        have hnw : nativeFrameWords "java/lang/System" "arraycopy" 5 = 7 := by decide
        exact va_copyl hx hb (hml.trans hl.1.symm) hown (hts _ (am_CP_ok _ hq)) (hts _ am_w_cp.1) (hts _ am_w_cp.2.1) (hts _ am_w_cp.2.2) hK hP hD hS (r0 - 6) (r1 - 6) 3 3 (am_w_get hr0 hget0) (am_w_get hr1 hget1) rfl rfl rfl g1' g2' g3' g4' g5' (fun _ _ => rfl) (by omega) (by omega) hd (fun H1 locs1 q1 q2 q3 => am_ks I hr1 hget1 kk rfl trivial hst.tl.tl.tl.tl.tl q1 q2 q3)
      · rename_i n0' f n1 g1 hrm hget0 hget1
        cases hs
        obtain ⟨hr0, hr1, g1', g2', g3', g4', g5', g6'⟩ := hg
        have hrl := am_room_le (ρ := ρ) hrm
        have hnw : nativeFrameWords "java/lang/System" "arraycopy" 5 = 7 := by decide
        have hsc : am_scc h.length (.inl (4, (n1, .inr (.inr (.inr (.inr (va_cpy f g1 sp.toNatClampNeg dp.toNatClampNeg n.toNatClampNeg))))))) := by
          intro i v hv
          simp only [va_cpy] at hv
          split at hv
          · exact hh _ (am_mem_get hget0) _ v hv
          · exact hh _ (am_mem_get hget1) _ v hv
        refine va_copyM (E0 := "java/lang/Object") (E1 := "java/lang/Object") hx hb (hml.trans hl.1.symm) hown (hts _ (am_CP_ok _ hq)) (hts _ am_w_cp.1) (hts _ am_w_cp.2.1) (hts _ am_w_cp.2.2) hK hP hD hS (r0 - 6) (r1 - 6) 4 4 (am_w_get hr0 hget0) (am_w_get hr1 hget1) rfl rfl g1' g2' g3' g4' g5' (fun i hi y hy => ?_) (by omega) (by omega) hd (fun H1 locs1 q1 q2 q3 => am_ks I hr1 hget1 kk rfl hsc hst.tl.tl.tl.tl.tl (by rw [am_tc_cpy]; exact q1) (by rw [am_tc_cpy]; exact q2) q3)
        cases hfi : f (sp.toNatClampNeg + i) with
        | none => rw [hfi] at hy; cases hy
        | some z =>
          rw [hfi] at hy
          cases hy
          obtain ⟨hz, fs, hgz⟩ := g6' i hi z hfi
          exact va_rAny (r := ("TextIndices$Part", F_Pa, 5)) hK hP (am_w_get hz hgz) rfl (vb_asgC (hX.2.2.2.2.2.1 _ (by simp [am_NW])))
      · cases hs
    · cases hs
  · simp only [Bool.and_eq_true, decide_eq_true_eq] at hok
    obtain ⟨⟨hd, rfl⟩, ⟨hq, w1⟩, w2⟩ := hok
    simp only [am_s] at hs
    split at hs
    · rename_i y x st2
      split at hs
      · rename_i hrm
        cases hs
        have hrl := am_room_le (ρ := ρ) hrm
        exact va_mmax hx hb (hml.trans hl.1.symm) hown (hts _ (am_MX_ok _ hq)) (hts _ am_w_max.1) (hts _ am_w_max.2.1) (hts _ am_w_max.2.2) (by omega) (by omega) (by omega) (by omega) hd (am_kp I kk hl (am_ss.cn trivial hst.tl.tl))
      · cases hs
    · cases hs
  · simp only [Bool.and_eq_true, decide_eq_true_eq] at hok
    obtain ⟨⟨hd, rfl⟩, ⟨hq, w1⟩, w2⟩ := hok
    simp only [am_s] at hs
    split at hs
    · rename_i y x st2
      split at hs
      · rename_i hrm
        cases hs
        have hrl := am_room_le (ρ := ρ) hrm
        exact va_mmin hx hb (hml.trans hl.1.symm) hown (hts _ (am_MN_ok _ hq)) (hts _ am_w_min.1) (hts _ am_w_min.2.1) (hts _ am_w_min.2.2) (by omega) (by omega) (by omega) (by omega) hd (am_kp I kk hl (am_ss.cn trivial hst.tl.tl))
      · cases hs
    · cases hs
set_option maxHeartbeats 4000000 in
theorem am_sim (F : am_fix p R s mm args meth c m) (hA : ∀ q, s.heap.size ≤ q → A q) (hX : am_ext ρ0 L xs A s s.heap) (hK : va_K D am_cl (am_tys τ) s) (h6 : 6 ≤ n0) (i : Jvm.ClassFile.Instr) : am_STEP p l e R s mm args below meth c Q m D τ A L xs n0 ρ0 i := by
  cases i with
  | iadd => exact am_st_iadd F hA hX hK h6
  | isub => exact am_st_isub F hA hX hK h6
  | imul => exact am_st_imul F hA hX hK h6
  | iand => exact am_st_iand F hA hX hK h6
  | ishr => exact am_st_ishr F hA hX hK h6
  | ladd => exact am_st_ladd F hA hX hK h6
  | lsub => exact am_st_lsub F hA hX hK h6
  | lmul => exact am_st_lmul F hA hX hK h6
  | land => exact am_st_land F hA hX hK h6
  | lor => exact am_st_lor F hA hX hK h6
  | irem => exact am_st_irem F hA hX hK h6
  | ldiv => exact am_st_ldiv F hA hX hK h6
  | lrem => exact am_st_lrem F hA hX hK h6
  | lcmp => exact am_st_lcmp F hA hX hK h6
  | lshl => exact am_st_lshl F hA hX hK h6
  | lshr => exact am_st_lshr F hA hX hK h6
  | lushr => exact am_st_lushr F hA hX hK h6
  | i2l => exact am_st_i2l F hA hX hK h6
  | l2i => exact am_st_l2i F hA hX hK h6
  | i2b => exact am_st_i2b F hA hX hK h6
  | iload n => exact am_st_iload F hA hX hK h6
  | iload_n n => exact am_st_iload_n F hA hX hK h6
  | lload n => exact am_st_lload F hA hX hK h6
  | lload_n n => exact am_st_lload_n F hA hX hK h6
  | aload n => exact am_st_aload F hA hX hK h6
  | istore n => exact am_st_istore F hA hX hK h6
  | lstore n => exact am_st_lstore F hA hX hK h6
  | astore n => exact am_st_astore F hA hX hK h6
  | aload_n n => exact am_st_aload_n F hA hX hK h6
  | istore_n n => exact am_st_istore_n F hA hX hK h6
  | lstore_n n => exact am_st_lstore_n F hA hX hK h6
  | astore_n n => exact am_st_astore_n F hA hX hK h6
  | iinc n d => exact am_st_iinc F hA hX hK h6
  | iconst n => exact am_st_iconst F hA hX hK h6
  | bipush n => exact am_st_bipush F hA hX hK h6
  | sipush n => exact am_st_sipush F hA hX hK h6
  | lconst n => exact am_st_lconst F hA hX hK h6
  | ldc2_w x => exact am_st_ldc2_w F hA hX hK h6
  | ldc x => exact am_st_ldc F hA hX hK h6
  | getstatic x => exact am_st_getstatic F hA hX hK h6
  | dup => exact am_st_dup F hA hX hK h6
  | pop => exact am_st_pop F hA hX hK h6
  | dup_x1 => exact am_st_dup_x1 F hA hX hK h6
  | dup2 => exact am_st_dup2 F hA hX hK h6
  | aconst_null => exact am_st_aconst_null F hA hX hK h6
  | goto d => exact am_st_goto F hA hX hK h6
  | if_icmp c d =>
    cases c with
    | eq => exact am_st_icmp_eq F hA hX hK h6
    | ne => exact am_st_icmp_ne F hA hX hK h6
    | lt => exact am_st_icmp_lt F hA hX hK h6
    | ge => exact am_st_icmp_ge F hA hX hK h6
    | gt => exact am_st_icmp_gt F hA hX hK h6
    | le => exact am_st_icmp_le F hA hX hK h6
  | ifCond c d =>
    cases c with
    | eq => exact am_st_if_eq F hA hX hK h6
    | ne => exact am_st_if_ne F hA hX hK h6
    | lt => exact am_st_if_lt F hA hX hK h6
    | ge => exact am_st_if_ge F hA hX hK h6
    | gt => exact am_st_if_gt F hA hX hK h6
    | le => exact am_st_if_le F hA hX hK h6
  | if_acmp c d =>
    cases c with
    | eq => exact am_st_acmp_eq F hA hX hK h6
    | ne => exact am_st_acmp_ne F hA hX hK h6
  | ifnull d => exact am_st_ifnull F hA hX hK h6
  | ifnonnull d => exact am_st_ifnonnull F hA hX hK h6
  | tableswitch d lo hi offs => exact am_st_tableswitch F hA hX hK h6
  | iaload => exact am_st_iaload F hA hX hK h6
  | baload => exact am_st_baload F hA hX hK h6
  | laload => exact am_st_laload F hA hX hK h6
  | aaload => exact am_st_aaload F hA hX hK h6
  | iastore => exact am_st_iastore F hA hX hK h6
  | bastore => exact am_st_bastore F hA hX hK h6
  | lastore => exact am_st_lastore F hA hX hK h6
  | aastore => exact am_st_aastore F hA hX hK h6
  | arraylength => exact am_st_arraylength F hA hX hK h6
  | newarray t =>
    cases t with
    | int => exact am_st_newa_int F hA hX hK h6
    | byte => exact am_st_newa_byte F hA hX hK h6
    | boolean => exact am_st_newa_boolean F hA hX hK h6
    | long => exact am_st_newa_long F hA hX hK h6
    | _ =>
      intro H locs cells slots pc nx a b cc k lv ls ls' st st' h h' g pc' ρ lsC hok hkd hs hg I hcel hslo kk
      simp only [am_okb, am_okb1, Bool.and_eq_true, decide_eq_true_eq] at hok
      simp only [am_tag] at hok
      omega
  | anewarray x => exact am_st_anewarray F hA hX hK h6
  | new x => exact am_st_new F hA hX hK h6
  | getfield x => exact am_st_getfield F hA hX hK h6
  | putfield x => exact am_st_putfield F hA hX hK h6
  | checkcast x => exact am_st_checkcast F hA hX hK h6
  | invokevirtual x => exact am_st_getclass F hA hX hK h6
  | invokespecial x => exact am_st_objinit F hA hX hK h6
  | invokestatic x => exact am_st_static F hA hX hK h6
  | _ =>
    intro H locs cells slots pc nx a b cc k lv ls ls' st st' h h' g pc' ρ lsC hok hkd hs hg I hcel hslo kk
    cases hs
end SIM
end
section
/-! ===== whole runs of the abstract machine are the machine's ===== -/
theorem am_run_le : ∀ (n : Nat) {m pc : Nat} {ls : List (Option Value)} {st : List Value} {h : List am_C} {r : Option Value} {h' : List am_C}, am_run n m pc ls st h = some (r, h') → am_le h h' := by
  intro n
  induction n with
  | zero => intro m pc ls st h r h' hx; simp [am_run] at hx
  | succ n ih =>
    intro m pc ls st h r h' hx
    rw [am_run] at hx
    cases he : am_E m pc with
    | none => rw [he] at hx; cases hx
    | some e =>
      obtain ⟨i, nx, a, b, c, k, l⟩ := e
      rw [he] at hx
      try dsimp only at hx
      match hk : am_kd i b with
      | 0 =>
        rw [hk] at hx
        try dsimp only at hx
        cases hs : am_s am_df am_ft i nx a b k l ls st h with
        | none => rw [hs] at hx; cases hx
        | some o =>
          obtain ⟨g, pc', ls', st', h1⟩ := o
          rw [hs] at hx
          try dsimp only at hx
          by_cases hg : g
          · rw [if_pos hg] at hx
            exact (am_s_le hs).tr (ih hx)
          · rw [if_neg hg] at hx; cases hx
      | 1 =>
        rw [hk] at hx
        try dsimp only at hx
        cases hs : am_call am_kc am_ml a b c st h with
        | none => rw [hs] at hx; cases hx
        | some o =>
          obtain ⟨j, as, rest⟩ := o
          rw [hs] at hx
          try dsimp only at hx
          cases hr : am_run n j 0 (am_ent (am_ml j) as) [] h with
          | none => rw [hr] at hx; cases hx
          | some o =>
            obtain ⟨r1, h1⟩ := o
            rw [hr] at hx
            exact (ih hr).tr (ih hx)
      | 2 =>
        rw [hk] at hx
        try dsimp only at hx
        cases hs : am_ret i a st with
        | none => rw [hs] at hx; cases hx
        | some o =>
          obtain ⟨g, r1⟩ := o
          rw [hs] at hx
          try dsimp only at hx
          by_cases hg : g
          · rw [if_pos hg] at hx
            cases hx
            exact am_le.rf _
          · rw [if_neg hg] at hx; cases hx
      | k + 3 => rw [hk] at hx; cases hx
theorem am_tk_eq : ∀ (n : Nat) (st acc as st' : List Value), am_tk n st acc = some (as, st') → ∃ l, st = l ++ st' ∧ l.length = n ∧ as = l.reverse ++ acc
  | 0, st, acc, as, st', h => by
    cases h
    exact ⟨[], rfl, rfl, rfl⟩
  | n + 1, [], acc, as, st', h => by cases h
  | n + 1, v :: st, acc, as, st', h => by
    obtain ⟨l, h1, h2, h3⟩ := am_tk_eq n st (v :: acc) as st' h
    exact ⟨v :: l, by rw [h1]; rfl, by simp [h2], by rw [h3]; simp⟩
theorem am_sl_len (vs : List Value) : (lg_sl vs).length = (vs.map fun v => v.category).sum := by
  induction vs with
  | nil => rfl
  | cons v vs ih =>
    have e : lg_sl (v :: vs) = (if v.category = 2 then [.val v, .second] else [.val v]) ++ lg_sl vs := rfl
    rw [e, List.length_append, ih, List.map_cons, List.sum_cons]
    rcases lv_cat v with h | h <;> simp [h]
/-- the arguments as locals -/
theorem am_ent_get {ρ : Nat → Nat} : ∀ (vs : List Value) (n off i : Nat) (v : Value), am_get (am_ent n vs) i = some (some v) → (off + i, am_t ρ v) ∈ lv_args off (vs.map (am_t ρ)) ∧ v ∈ vs
  | [], n, off, i, v, h => by
    have : am_ent n [] = List.replicate n none := by cases n <;> rfl
    rw [this, am_get_eq] at h
    have := List.eq_of_mem_replicate (List.mem_of_getElem? h)
    cases this
  | w :: vs, 0, off, i, v, h => by simp [am_ent, am_get] at h
  | w :: vs, n + 1, off, 0, v, h => by
    have hz1 : am_get (am_ent (n + 1) (w :: vs)) 0 = some (some w) := by cases w <;> first | rfl | (cases n <;> rfl)
    rw [hz1] at h
    cases h
    exact ⟨by simp [lv_args], List.mem_cons_self⟩
  | w :: vs, n + 1, off, i + 1, v, h => by
    have key : ∀ (k j : Nat), am_get (am_ent k vs) j = some (some v) → off + (i + 1) = off + (if (am_t ρ w).category = 2 then 2 else 1) + j → (off + (i + 1), am_t ρ v) ∈ lv_args off ((w :: vs).map (am_t ρ)) ∧ v ∈ w :: vs := by
      intro k j hj e
      have := am_ent_get (ρ := ρ) vs k (if (am_t ρ w).category = 2 then off + 2 else off + 1) j v hj
      refine ⟨?_, List.mem_cons_of_mem _ this.2⟩
      rw [List.map_cons, lv_args]
      refine List.mem_cons_of_mem _ ?_
      rw [e]
      split at this
      · rename_i hc
        rw [if_pos hc, if_pos hc]
        exact this.1
      · rename_i hc
        rw [if_neg hc, if_neg hc]
        exact this.1
    cases w with
    | long x =>
      cases n with
      | zero => exact absurd (show (none : Option (Option Value)) = some (some v) from h) (by simp)
      | succ n =>
        cases i with
        | zero => exact absurd (show some (none : Option Value) = some (some v) from h) (by simp)
        | succ i => exact key n i h (by simp [am_t, Value.category]; omega)
    | double x =>
      cases n with
      | zero => exact absurd (show (none : Option (Option Value)) = some (some v) from h) (by simp)
      | succ n =>
        cases i with
        | zero => exact absurd (show some (none : Option Value) = some (some v) from h) (by simp)
        | succ i => exact key n i h (by simp [am_t, Value.category]; omega)
    | int x => exact key n i h (by simp [am_t, Value.category]; omega)
    | float x => exact key n i h (by simp [am_t, Value.category]; omega)
    | ref x => exact key n i h (by simp [am_t, Value.category]; omega)
    | null => exact key n i h (by simp [am_t, Value.category]; omega)
    | retAddr x => exact key n i h (by simp [am_t, Value.category]; omega)
theorem am_ret_st {i : Jvm.ClassFile.Instr} {a : Nat} {st : List Value} {g : Prop} {r : Option Value} (h : am_ret i a st = some (g, r)) : st = r.toList := by
  cases i <;> simp only [am_ret] at h
  all_goals first
    | (cases h; done)
    | skip
  all_goals (repeat' split at h)
  all_goals first
    | (cases h; done)
    | (cases h; rfl)
theorem am_ext.mv {ρ : Nat → Nat} {L : Nat} {xs : Nat → Int32} {A : Nat → Prop} {u U : State} {H : Heap} (hvm : u.vm.Alike U.vm) (hnw : ∀ w ∈ am_NW, va_Nw w u → va_Nw w U) (h : am_ext ρ L xs A u H) : am_ext ρ L xs A U H := by
  obtain ⟨h1, ⟨f, h2⟩, h3, h4, ⟨h5, h6, h7⟩, h8, h9, h10, h11⟩ := h
  exact ⟨fun x C n d q => (h1 x C n d q).moved hvm, ⟨f, h2.moved hvm⟩, h3, h4.moved hvm, ⟨h5.moved hvm, h6, h7⟩, fun w hw => hnw w hw (h8 w hw), h9.moved hvm, h10.moved hvm, h11.moved hvm⟩
theorem am_ext.kp {ρ : Nat → Nat} {L : Nat} {xs : Nat → Int32} {A : Nat → Prop} {U : State} {H H1 : Heap} (hz : H.size ≤ H1.size) (hq : ∀ a : Nat, a < H.size → ¬ A a → H1[a]? = H[a]?) (h : am_ext ρ L xs A U H) : am_ext ρ L xs A U H1 := by
  obtain ⟨h1, ⟨f, h2⟩, h3, h4, ⟨h5, h6, h7⟩, h8, h9, h10, h11⟩ := h
  exact ⟨fun x C n d q => (h1 x C n d q).kept hq, ⟨f, h2.kept hq⟩, h3, h4, ⟨h5.kept (hq _ h6 h7), Nat.lt_of_lt_of_le h6 hz, h7⟩, h8, h9, h10, h11⟩
theorem am_ext.nw {ρ : Nat → Nat} {L : Nat} {xs : Nat → Int32} {A B : Nat → Prop} {U : State} {H : Heap} (hAB : ∀ q, B q → A q) (h : am_ext ρ L xs A U H) : am_ext ρ L xs B U H := by
  obtain ⟨h1, ⟨f, h2⟩, h3, h4, ⟨h5, h6, h7⟩, h8, h9, h10, h11⟩ := h
  exact ⟨fun x C n d q => (h1 x C n d q).narrow hAB, ⟨f, h2.narrow hAB⟩, h3, h4, ⟨h5, h6, fun q => h7 (hAB _ q)⟩, h8, h9, h10, h11⟩
theorem am_ext.rho {ρ ρ' : Nat → Nat} {L : Nat} {xs : Nat → Int32} {A : Nat → Prop} {U : State} {H : Heap} (e : ∀ k, k < 6 → ρ' k = ρ k) (h : am_ext ρ L xs A U H) : am_ext ρ' L xs A U H := by
  obtain ⟨h1, ⟨f, h2⟩, h3, h4, ⟨h5, h6, h7⟩, h8, h9, h10, h11⟩ := h
  refine ⟨fun x C n d q => ?_, ⟨f, ?_⟩, fun i j i1 i2 j1 j2 q => h3 i j i1 i2 j1 j2 ?_, ?_, ⟨?_, ?_, ?_⟩, h8, h9, h10, h11⟩
  · rw [e x (by have := am_xs_lt q; omega)]; exact h1 x C n d q
  · rw [e 0 (by decide)]; exact h2
  · rw [e i (by omega), e j (by omega)] at q; exact q
  · rw [e 4 (by decide)]; exact h4
  · rw [e 5 (by decide)]; exact h5
  · rw [e 5 (by decide)]; exact h6
  · rw [e 5 (by decide)]; exact h7
theorem am_nw_warm {s U : State} (hW : s.WarmedH U.vm) : ∀ w ∈ am_NW, va_Nw w s → va_Nw w U := by
  intro w hw h
  rcases am_NW_use hw with ⟨own, ix, y, hst, rfl⟩ | ⟨C, T, rfl⟩
  · exact va_Nw.warmM hW h
  · exact va_Nw.warmC hW h
theorem am_nw_same {u U : State} (e : u.vm = U.vm) : ∀ w ∈ am_NW, va_Nw w u → va_Nw w U := by
  intro w hw h
  rcases am_NW_use hw with ⟨own, ix, y, hst, rfl⟩ | ⟨C, T, rfl⟩
  · exact va_Nw.same rfl e h
  · exact va_Nw.same rfl e h
/-- a method's start and end, in the abstract machine's words -/
def am_PB (D : va_G) (τ : Nat → ClassId) (L : Nat) (xs : Nat → Int32) (ρ : Nat → Nat) (h : List am_C) (sz : Nat) (U : State) : Prop :=
  U.heap.size = sz ∧ va_P D am_cl (am_w ρ τ h) U.heap ∧ va_K D am_cl (am_tys τ) U ∧ va_D (fun _ => True) (am_w ρ τ h) ∧ am_ext ρ L xs (va_A (am_w ρ τ h) sz) U U.heap
def am_QB (D : va_G) (τ : Nat → ClassId) (L : Nat) (xs : Nat → Int32) (ρ : Nat → Nat) (n0 : Nat) (A : Nat → Prop) (r : Option Value) (h1 : List am_C) : Array Value → State → Outcome → State → Prop := fun _ st oc t =>
  (∃ ρ' : Nat → Nat, (∀ k, k < n0 → ρ' k = ρ k) ∧ am_ss h1.length r.toList ∧ (∀ c ∈ h1, am_scc h1.length c) ∧ am_dm L xs h1 ∧ oc = .returned (r.map (am_t ρ')) ∧ va_P D am_cl (am_w ρ' τ h1) t.heap ∧ va_D A (am_w ρ' τ h1)) ∧ va_F A st t
/-- where a run ends -/
def am_END (p : Program) (l : Launch) (e : Env) (R : Room) (s : State) (mm : MethodId) (args : Array Value) (below : List Frame) (meth : Method) (c : Code) (Q : State → Prop) (m : Nat) (D : va_G) (τ : Nat → ClassId) (A : Nat → Prop) (L : Nat) (xs : Nat → Int32) (n0 : Nat) (ρ0 : Nat → Nat) (C1 S1 : Nat) (r : Option Value) (h' : List am_C) : Prop :=
  ∀ {ρ : Nat → Nat} {H : Heap} {locs : List Loc} {lsC : Array Slot} {pc : Nat} {i : Jvm.ClassFile.Instr} {nx a b cc : Nat} {k : Int32} {lv : Int64} {g : Prop},
    am_inv D τ A s L xs n0 ρ0 (am_ml m) ρ [] r.toList h' H locs lsC → am_okb m pc (i, nx, a, b, cc, k, lv) = true → am_kd i b = 2 → am_ret i a r.toList = some (g, r) → g →
    W p l e R s mm args below meth c H locs C1 S1 Q (F0 mm pc lsC (r.toList.map (am_t ρ)))
def am_FRAME (n : Nat) : Prop := ∀ {p : Program} {l : Launch} {e : Env} {R : Room} {s : State} {mm : MethodId} {args : Array Value} {below : List Frame} {meth : Method} {c : Code} {Q : State → Prop} {m : Nat} {D : va_G} {τ : Nat → ClassId} {A : Nat → Prop} {L : Nat} {xs : Nat → Int32} {n0 : Nat} {ρ0 : Nat → Nat} {C1 S1 : Nat} {r : Option Value} {h' : List am_C},
    am_fix p R s mm args meth c m → (∀ q, s.heap.size ≤ q → A q) → am_ext ρ0 L xs A s s.heap → va_K D am_cl (am_tys τ) s → 6 ≤ n0 → C1 ≤ R.cells → S1 ≤ R.slots →
    am_END p l e R s mm args below meth c Q m D τ A L xs n0 ρ0 C1 S1 r h' →
    ∀ {pc : Nat} {ls : List (Option Value)} {st : List Value} {h : List am_C} {ρ : Nat → Nat} {H : Heap} {locs : List Loc} {lsC : Array Slot} {cells slots : Nat},
      am_run n m pc ls st h = some (r, h') → am_inv D τ A s L xs n0 ρ0 (am_ml m) ρ ls st h H locs lsC → cells + (h'.length - h.length) = C1 → slots + (am_sz h' - am_sz h) = S1 →
      W p l e R s mm args below meth c H locs cells slots Q (F0 mm pc lsC (st.map (am_t ρ)))
/-- a method's contract, out of its frames -/
theorem am_met {n j : Nat} (FR : am_FRAME n) (hJ : am_okJ j) {as : List Value} {h h1 : List am_C} {r1 : Option Value} (hr : am_run n j 0 (am_ent (am_ml j) as) [] h = some (r1, h1)) (hfit : am_fits as (am_ml j) = true)
    (l : Launch) {D : va_G} {τ : Nat → ClassId} {L : Nat} {xs : Nat → Int32} {ρ : Nat → Nat} (has : am_ss h.length as) (hh : ∀ c ∈ h, am_scc h.length c) (hdm : am_dm L xs h) (sz : Nat) :
    Met l (am_y j) (Cond.code (am_y j) (am_bc j) (am_ml j) (am_rt j) :: am_T) { frames := am_D j, cells := h1.length - h.length, slots := am_sz h1 - am_sz h, locals := am_Lo j } (va_Pc (as.map (am_t ρ)) (am_PB D τ L xs ρ h sz)) (am_QB D τ L xs ρ h.length (va_A (am_w ρ τ h) sz) r1 h1) (h1.length - h.length) (am_sz h1 - am_sz h) (va_A (am_w ρ τ h) sz) := by
  obtain ⟨j1, j2, j3, j4, j5⟩ := hJ
  refine va_MetF (cc := am_bc j) (maxL := am_ml j) (ret := am_rt j) j4 rfl ?_
  intro p e s m args below meth c s₁ B hml hv
  obtain ⟨rfl, hsz, hP, hK, hD0, hX⟩ := hv
  have hx := B.exec
  have hb := B.bytes
  have hret := B.returns
  have hts0 := atoms_spec (ws := Cond.code (am_y j) (am_bc j) (am_ml j) (am_rt j) :: am_T) B.pre
  have hts : ∀ w ∈ am_T, w.before ((as.map (am_t ρ)).toArray) s = true := fun w hw => hts0 w (List.mem_cons_of_mem _ hw)
  have hown : s.vm.findClass (am_on (am_ow j)) = some m.cls := by rw [← j3]; exact findClass_of_methodNamed B.named
  have hlocks := B.notSynchronized
  have hname : meth.name = (am_y j).name := (name_of_methodNamed B.named B.method).1
  subst hsz
  have hD := hD0.self (sz := s.heap.size)
  generalize hAe : va_A (am_w ρ τ h) s.heap.size = A at hD hX ⊢
  have hA : ∀ q : Nat, s.heap.size ≤ q → A q := fun q h => by rw [← hAe]; exact Or.inr h
  have hS : va_S A s.heap s.heap [] := va_S.rf
  have hfit' : (lg_sl (as.map (am_t ρ))).length ≤ am_ml j := by
    rw [am_sl_len]
    have e1 : (as.map (am_t ρ)).map (fun v => v.category) = as.map fun v => v.category := by
      rw [List.map_map]
      exact List.map_congr_left fun v _ => am_t_cat ρ v
    rw [e1]
    exact Nat.le_of_ble_eq_true hfit
  have hl := lv_entry (as.map (am_t ρ)) (n := am_ml j) hfit'
  rw [lg_entry_eq]
  generalize (lg_sl (as.map (am_t ρ)) ++ List.replicate (am_ml j - (lg_sl (as.map (am_t ρ))).length) Slot.unset).toArray = lsC at hl ⊢
  have hlok : am_lok ρ h.length (am_ml j) (am_ent (am_ml j) as) lsC := ⟨hl.1, hl.2.1, fun i v hv => by
    have := am_ent_get (ρ := ρ) as (am_ml j) 0 i v hv
    rw [Nat.zero_add] at this
    exact ⟨has v this.2, hl.2.2 _ this.1⟩⟩
  refine FR (C1 := h1.length - h.length) (S1 := am_sz h1 - am_sz h) (r := r1) (h' := h1) (n0 := h.length) (ρ0 := ρ) (st := []) ⟨hx, hb, hml, hown, hts, Nat.le_refl _, Nat.le_refl _, fun q => hname.trans q⟩ hA hX hK hdm.1 (Nat.le_refl _) (Nat.le_refl _) ?_ hr ⟨hP, hD, hS, hlok, fun v hv => (by cases hv), hh, hdm, Nat.le_refl _, fun _ _ => rfl⟩ (Nat.zero_add _) (Nat.zero_add _)
  intro ρ' H' locs' lsC' pc i nx a b cc k lv g I hok hkd hrt hg
  obtain ⟨iP, iD, iS, il, ist, ih, idm, in0, iρ⟩ := I
  have fin : ∀ (v : Option Value), v = r1.map (am_t ρ') → ∀ t : State, t.heap = H' → s.WarmedH t.vm → am_QB D τ L xs ρ h.length A r1 h1 ((as.map (am_t ρ)).toArray) s (.returned v) t := by
    intro v hv t ht _
    subst hv
    exact ⟨⟨ρ', iρ, ist, ih, idm, rfl, by rw [ht]; exact iP, iD⟩, iS.F ht⟩
  cases i with
  | return_ =>
    simp only [am_okb, am_okb1, Bool.and_eq_true, decide_eq_true_eq] at hok
    simp only [am_lni] at hok
    obtain ⟨⟨hd, -⟩, hrt2⟩ := hok
    simp only [am_ret] at hrt
    split at hrt
    · rename_i e0
      cases hrt
      exact W.vret hx hb (hret.trans hrt2) (fun t ht hW => fin none rfl t ht hW) iS.2.2 hd
    · cases hrt
  | ireturn =>
    simp only [am_okb, am_okb1, Bool.and_eq_true, decide_eq_true_eq] at hok
    simp only [am_lni] at hok
    obtain ⟨⟨hd, -⟩, hrt2⟩ := hok
    simp only [am_ret] at hrt
    split at hrt
    · rename_i v e0
      cases a with
      | zero =>
        simp only [decide_eq_true_eq] at hrt2
        cases hrt
        exact W.iret (v := v) hx hb (hret.trans hrt2) (fun t ht hW => fin (some (.int v)) rfl t ht hW) iS.2.2 hd
      | succ a =>
        simp only [decide_eq_true_eq] at hrt2
        cases hrt
        exact W.zret (v := v) (ty := .boolean) hx hb (hret.trans hrt2) (by rcases hg with rfl | rfl <;> decide +kernel) (fun t ht hW => fin (some (.int v)) rfl t ht hW) iS.2.2 hd
    · cases hrt
  | lreturn =>
    simp only [am_okb, am_okb1, Bool.and_eq_true, decide_eq_true_eq] at hok
    simp only [am_lni] at hok
    obtain ⟨⟨hd, -⟩, hrt2⟩ := hok
    simp only [am_ret] at hrt
    split at hrt
    · rename_i v e0
      cases hrt
      exact W.lret (v := v) hx hb (hret.trans hrt2) (fun t ht hW => fin (some (.long v)) rfl t ht hW) iS.2.2 hd
    · cases hrt
  | areturn =>
    simp only [am_okb, am_okb1, Bool.and_eq_true, decide_eq_true_eq] at hok
    simp only [am_lni] at hok
    obtain ⟨⟨hd, -⟩, hrt2⟩ := hok
    obtain ⟨rt, hrt3, hrt4⟩ : ∃ rt, am_rt j = some rt ∧ ((∃ n, rt = .object n) ∨ ∃ t, rt = .array t) := by
      unfold am_isref at hrt2
      split at hrt2
      · rename_i n e1; exact ⟨_, e1, Or.inl ⟨n, rfl⟩⟩
      · rename_i n e1; exact ⟨_, e1, Or.inr ⟨n, rfl⟩⟩
      · cases hrt2
    simp only [am_ret] at hrt
    split at hrt
    · rename_i v e0
      cases hrt
      exact W.aret (v := .ref (ρ' v)) hx hb (hret.trans hrt3) hrt4 (Or.inr ⟨_, rfl⟩) (fun t ht hW => fin (some (.ref (ρ' v))) rfl t ht hW) iS.2.2 hd
    · cases hrt
      exact W.aret (v := .null) hx hb (hret.trans hrt3) hrt4 (Or.inl rfl) (fun t ht hW => fin (some .null) rfl t ht hW) iS.2.2 hd
    · cases hrt
  | _ => simp [am_ret] at hrt
end
section
/-! ===== calls, and the theorem of all frames ===== -/
theorem am_call3 {kc ml : Nat → Nat} {a c j : Nat} {st as rest : List Value} {h : List am_C} (hc : am_call kc ml a 3 c st h = some (j, as, rest)) : j = a ∧ st = as.reverse ++ rest ∧ as.length = c ∧ am_room rest = true ∧ am_fits as (ml a) = true := by
  simp only [am_call] at hc
  split at hc
  · rename_i as0 st0 htk
    obtain ⟨l, h1, h2, h3⟩ := am_tk_eq _ _ _ _ _ htk
    split at hc
    · rename_i hb
      cases hc
      simp only [Bool.and_eq_true] at hb
      rw [List.append_nil] at h3
      subst h3
      exact ⟨rfl, by rw [List.reverse_reverse]; exact h1, by rw [List.length_reverse]; exact h2, hb.1, hb.2⟩
    · cases hc
  · cases hc
theorem am_call0 {kc ml : Nat → Nat} {a c j : Nat} {st as rest : List Value} {h : List am_C} (hc : am_call kc ml a 0 c st h = some (j, as, rest)) : ∃ (as0 : List Value) (r : Nat) (fs : List Value), j = a ∧ as = .ref r :: as0 ∧ st = as0.reverse ++ .ref r :: rest ∧ as0.length = c ∧ am_get h r = some (.inr (kc a, fs)) ∧ 6 ≤ r ∧ am_room rest = true ∧ am_fits as (ml a) = true := by
  simp only [am_call] at hc
  split at hc
  · rename_i as0 st0 htk
    obtain ⟨l, h1, h2, h3⟩ := am_tk_eq _ _ _ _ _ htk
    rw [List.append_nil] at h3
    subst h3
    split at hc
    · rename_i r st2
      split at hc
      · rename_i ci fs hget
        split at hc
        · rename_i hb
          cases hc
          simp only [Bool.and_eq_true] at hb
          have e := Nat.eq_of_beq_eq_true hb.1.1.1
          subst e
          exact ⟨l.reverse, r, fs, rfl, rfl, by rw [List.reverse_reverse]; exact h1, by rw [List.length_reverse]; exact h2, hget, Nat.le_of_ble_eq_true hb.1.1.2, hb.1.2, hb.2⟩
        · cases hc
      · cases hc
    · cases hc
  · cases hc
theorem am_call12 {kc ml : Nat → Nat} {a b c j : Nat} {st as rest : List Value} {h : List am_C} (hb12 : b = 1 ∨ b = 2) (hc : am_call kc ml a b c st h = some (j, as, rest)) : ∃ (as0 : List Value) (r : Nat), j = a ∧ as = .ref r :: as0 ∧ st = as0.reverse ++ .ref r :: rest ∧ as0.length = c ∧ am_room rest = true ∧ am_fits as (ml a) = true := by
  have key : ∀ (o : Option (List Value × List Value)), am_tk c st [] = o → (match o with
      | some (as, st') => (match st' with
        | .ref r :: st2 => (match am_room st2 && am_fits (.ref r :: as) (ml a) with
          | true => some (a, Value.ref r :: as, st2)
          | false => none)
        | _ => none)
      | none => none) = some (j, as, rest) → ∃ (as0 : List Value) (r : Nat), j = a ∧ as = .ref r :: as0 ∧ st = as0.reverse ++ .ref r :: rest ∧ as0.length = c ∧ am_room rest = true ∧ am_fits as (ml a) = true := by
    intro o ho hc
    split at hc
    · rename_i as0 st0
      obtain ⟨l, h1, h2, h3⟩ := am_tk_eq _ _ _ _ _ ho
      rw [List.append_nil] at h3
      subst h3
      split at hc
      · rename_i r st2
        split at hc
        · rename_i hb
          cases hc
          simp only [Bool.and_eq_true] at hb
          exact ⟨l.reverse, r, rfl, rfl, by rw [List.reverse_reverse]; exact h1, by rw [List.length_reverse]; exact h2, hb.1, hb.2⟩
        · cases hc
      · cases hc
    · cases hc
  rcases hb12 with rfl | rfl
  · exact key _ rfl hc
  · exact key _ rfl hc
theorem am_kdV {x b : Nat} (h : am_kd (.invokevirtual x) b = 1) : b = 0 := by
  simp only [am_kd] at h
  split at h
  · rfl
  · cases h
  · cases h
theorem am_kdI {x b : Nat} (h : am_kd (.invokespecial x) b = 1) : b = 1 ∨ b = 2 := by
  simp only [am_kd] at h
  split at h
  · exact Or.inl rfl
  · exact Or.inr rfl
  · cases h
  · cases h
theorem am_kdS {x b : Nat} (h : am_kd (.invokestatic x) b = 1) : b = 3 := by
  simp only [am_kd] at h
  split at h
  · rfl
  · cases h
  · cases h
  · cases h
  · cases h
section CALLS
variable {p : Program} {l : Launch} {e : Env} {R : Room} {s : State} {mm : MethodId} {args : Array Value} {below : List Frame} {meth : Method} {c : Code} {H : Heap} {locs : List Loc} {cells slots : Nat} {Q : State → Prop}
variable {m pc : Nat} {nx a b cc : Nat} {k : Int32} {lv : Int64} {ls : List (Option Value)} {st : List Value} {h : List am_C} {D : va_G} {τ : Nat → ClassId} {A : Nat → Prop} {L : Nat} {xs : Nat → Int32} {n0 : Nat} {ρ0 ρ : Nat → Nat} {lsC : Array Slot}
theorem am_callx {A0 A1 : Nat → Prop} {mc ms : Nat} {free : Addr → Prop} {st0 rest : List Value} {Qa : State → Outcome → State → Prop} (hr : va_Run p l e R s mm args below meth c H locs cells slots mc ms (F0 mm pc lsC st0) rest Qa free) (hS : va_S A0 s.heap H locs)
    (hQF : ∀ st₀ oc t, Qa st₀ oc t → va_F A1 st₀ t) (hA : ∀ q, A1 q → A0 q) (hf : ∀ q, free q → A0 q)
    (kk : ∀ (v : Option Value) (st₀ t : State) (locs1 : List Loc), st₀.heap = H → Qa st₀ (.returned v) t → va_S A0 s.heap t.heap locs1 → W p l e R s mm args below meth c t.heap locs1 (cells + mc) (slots + ms) Q (F0 mm (pc + 3) lsC (v.toList ++ rest))) : W p l e R s mm args below meth c H locs cells slots Q (F0 mm pc lsC st0) := by
  intro T hT X
  obtain ⟨v, st₀, t, T', L, h0, X', hL, e1, e2, hq, st⟩ := hr T hT X
  obtain ⟨hz, hk⟩ := hQF _ _ _ hq
  rw [h0] at hz hk
  obtain ⟨t2, a1, b1⟩ := kk v st₀ t (locs ++ L) h0 hq
    ⟨Nat.le_trans hS.1 hz, fun q h1 h2 => by rw [hk q (Nat.lt_of_lt_of_le h1 hS.1) (fun z => h2 (hA q z))]; exact hS.2.1 q h1 h2, fun q hq => by
      rcases List.mem_append.mp hq with h | h
      · exact hS.2.2 q h
      · exact hf _ (hL q h)⟩ T' e1 X'
  exact ⟨t2, st t2 a1, b1⟩
theorem am_gin {ws : List Cond} (h : ∀ w ∈ ws, w ∈ am_T) : GoodIn am_T ws := fun w hw => ⟨h w hw, am_good w (h w hw)⟩
set_option maxHeartbeats 4000000 in
theorem am_callstep {n j : Nat} {i : Jvm.ClassFile.Instr} {as rest : List Value} {r1 : Option Value} {h1 : List am_C} (FR : am_FRAME n) (F : am_fix p R s mm args meth c m) (hA : ∀ q, s.heap.size ≤ q → A q) (hX : am_ext ρ0 L xs A s s.heap) (hK : va_K D am_cl (am_tys τ) s) (h6 : 6 ≤ n0)
    (hok : am_okb m pc (i, nx, a, b, cc, k, lv) = true) (hkd : am_kd i b = 1) (hcl : am_call am_kc am_ml a b cc st h = some (j, as, rest)) (hr : am_run n j 0 (am_ent (am_ml j) as) [] h = some (r1, h1))
    (I : am_inv D τ A s L xs n0 ρ0 (am_ml m) ρ ls st h H locs lsC) (hcel : cells + (h1.length - h.length) ≤ R.cells) (hslo : slots + (am_sz h1 - am_sz h) ≤ R.slots)
    (kk : ∀ ρ' H' locs', am_inv D τ A s L xs n0 ρ0 (am_ml m) ρ' ls (r1.toList ++ rest) h1 H' locs' lsC → W p l e R s mm args below meth c H' locs' (cells + (h1.length - h.length)) (slots + (am_sz h1 - am_sz h)) Q (F0 mm nx lsC ((r1.toList ++ rest).map (am_t ρ')))) :
    W p l e R s mm args below meth c H locs cells slots Q (F0 mm pc lsC (st.map (am_t ρ))) := by
  obtain ⟨hx, hb, hml, hown, hts, hfr, hlo, hin⟩ := F
  obtain ⟨hP, hD, hS, hl, hst, hh, hdm, hn0, hρ⟩ := id I
  have hle := am_run_le n hr
  have hFc : ∀ q, va_A (am_w ρ τ h) H.size q → A q := by
    intro q hq
    rcases hq with ⟨k1, e1, h2⟩ | h2
    · exact hD.2 k1 _ h2
    · exact hA q (Nat.le_trans hS.1 h2)
  have ext : am_ext ρ L xs (va_A (am_w ρ τ h) H.size) s H := ((hX.rho (fun k hk => hρ k (by omega))).kp hS.1 hS.2.1).nw hFc
  have blind : ∀ (av : List Value), FrameBlind (va_Pc av (am_PB D τ L xs ρ h H.size)) := by
    intro av a1 U g mk q
    obtain ⟨q0, q1, q2, q3, q4, q5⟩ := q
    exact ⟨q0, q1, q2, va_K.moved (u := U) (U := U.calling g mk a1) (Vm.Alike.refl U.vm) q3, q4, am_ext.mv (u := U) (U := U.calling g mk a1) (Vm.Alike.refl U.vm) (am_nw_same rfl) q5⟩
  have pre : ∀ (av : List Value) (U : State), U.heap = H → s.WarmedH U.vm → va_Pc av (am_PB D τ L xs ρ h H.size) av.toArray U := by
    intro av U hU hW
    refine ⟨rfl, by rw [hU], by rw [hU]; exact hP, va_K.moved hW.alike hK, hD.weaken (fun _ _ _ _ => trivial), ?_⟩
    rw [hU]
    exact ext.mv hW.alike (am_nw_warm hW)
  have cont : ∀ {aA : Array Value}, nx = pc + 3 → am_ss h.length rest → va_Run p l e R s mm args below meth c H locs cells slots (h1.length - h.length) (am_sz h1 - am_sz h) (F0 mm pc lsC (st.map (am_t ρ))) (rest.map (am_t ρ)) (am_QB D τ L xs ρ h.length (va_A (am_w ρ τ h) H.size) r1 h1 aA) (va_A (am_w ρ τ h) H.size) → W p l e R s mm args below meth c H locs cells slots Q (F0 mm pc lsC (st.map (am_t ρ))) := by
    intro aA hnx hrs hrun
    refine am_callx hrun hS (fun _ _ _ q => q.2) hFc hFc (fun v st₀ t locs1 h0 hq hS1 => ?_)
    obtain ⟨⟨ρ', q1, q2, q3, q4, q5, q6, q7⟩, -⟩ := hq
    cases q5
    have e1 := am_ts_ext q1 rest hrs
    have := kk ρ' t.heap locs1 ⟨q6, q7.weaken (fun _ q _ z => hFc q.1 z), hS1, hl.ext hle.1 q1, fun v hv => (List.mem_append.mp hv).elim (q2 v) (hrs.le hle.1 v), q3, q4, Nat.le_trans hn0 hle.1, fun z hz => by rw [q1 z (Nat.lt_of_lt_of_le hz hn0)]; exact hρ z hz⟩
    rw [hnx, List.map_append, e1] at this
    have e2 : r1.toList.map (am_t ρ') = (r1.map (am_t ρ')).toList := by cases r1 <;> rfl
    rw [e2] at this
    exact this
  have hmem : ∀ w ∈ (Cond.code (am_y j) (am_bc j) (am_ml j) (am_rt j) :: am_T), am_okJ j → w ∈ am_T := fun w hw hJ => (List.mem_cons.mp hw).elim (fun q => q ▸ hJ.1) id
  cases i with
  | invokestatic x =>
    have b3 := am_kdS hkd
    subst b3
    simp only [am_okb, am_okb1, am_call_ok, Bool.and_eq_true, decide_eq_true_eq] at hok
    simp only [am_lni] at hok
    obtain ⟨⟨hd, hnx⟩, hq, ⟨w1, w2⟩, w3⟩ := hok
    obtain ⟨rfl, c1, c2, c3, c4⟩ := am_call3 hcl
    obtain ⟨hJ, k1, k2⟩ := am_ML_ok _ hq
    subst c1
    have hsr : am_ss h.length rest := fun v hv => hst v (List.mem_append_right _ hv)
    have hsa : am_ss h.length as := fun v hv => hst v (List.mem_append_left _ (List.mem_reverse.mpr hv))
    have hM := am_met FR hJ hr c4 l (D := D) (τ := τ) (ρ := ρ) hsa hh hdm H.size
    refine cont (aA := (as.map (am_t ρ)).toArray) hnx hsr ?_
    refine va_runS (As := as.map (am_t ρ)) ⟨hx, hb, hml, hown, hts⟩ hM (va_cwS (am_nc j) hts (am_gin ?_) rfl rfl rfl hJ.2.2.2.2 ⟨by show am_D j + 1 ≤ R.frames; omega, by show 8 + (am_ml j + 11) + am_Lo j ≤ R.locals; omega⟩) ⟨blind _, pre _⟩ rfl (by rw [List.length_map, c2, w1]) hl.1 (by simp [List.map_reverse]) (lv_room (am_room_le c3)) hd ⟨hcel, hslo⟩
    intro w hw
    simp only [va_wsS, List.cons_append, List.nil_append] at hw
    rcases List.mem_cons.mp hw with rfl | hw
    · exact k1
    rcases List.mem_cons.mp hw with rfl | hw
    · exact k2
    rcases List.mem_cons.mp hw with rfl | hw
    · exact hJ.2.1
    · exact hmem w hw hJ
  | invokevirtual x =>
    have b0 := am_kdV hkd
    subst b0
    simp only [am_okb, am_okb1, am_call_ok, Bool.and_eq_true, decide_eq_true_eq] at hok
    simp only [am_lni] at hok
    obtain ⟨⟨hd, hnx⟩, hq, ⟨w1, w2⟩, w3⟩ := hok
    obtain ⟨as0, r, fs, rfl, rfl, c1, c2, hget, h6r, c3, c4⟩ := am_call0 hcl
    obtain ⟨hJ, k1, k2, k3, T, N, k4⟩ := am_ML_ok _ hq
    subst c1
    have hsr : am_ss h.length rest := fun v hv => hst v (List.mem_append_right _ (List.mem_cons_of_mem _ hv))
    have hsa : am_ss h.length (.ref r :: as0) := am_ss.cn (hst _ (List.mem_append_right _ List.mem_cons_self)) (fun v hv => hst v (List.mem_append_left _ (List.mem_reverse.mpr hv)))
    have hM := am_met FR hJ hr c4 l (D := D) (τ := τ) (ρ := ρ) hsa hh hdm H.size
    refine cont (aA := (Value.ref (ρ r) :: as0.map (am_t ρ)).toArray) hnx hsr ?_
    refine va_runV (As := as0.map (am_t ρ)) (b := ρ r) (C := (am_y j).cls) ⟨hx, hb, hml, hown, hts⟩ hM (cwV (am_nc j) hts (am_gin ?_) rfl rfl rfl ⟨rfl, hJ.2.2.2.2⟩ ⟨by show am_D j + 1 ≤ R.frames; omega, by show 8 + (am_ml j + 11) + am_Lo j ≤ R.locals; omega⟩) ⟨blind _, va_recv hK hP k4 (am_w_get h6r hget), pre _⟩ rfl (by rw [List.length_map, c2, w1]) hl.1 (by simp [List.map_reverse, am_t]) (lv_room (am_room_le c3)) hd ⟨hcel, hslo⟩
    intro w hw
    simp only [wsV, List.cons_append, List.nil_append] at hw
    rcases List.mem_cons.mp hw with rfl | hw
    · exact k1
    rcases List.mem_cons.mp hw with rfl | hw
    · exact k2
    rcases List.mem_cons.mp hw with rfl | hw
    · exact k3
    rcases List.mem_cons.mp hw with rfl | hw
    · exact hJ.2.1
    · exact hmem w hw hJ
  | invokespecial x =>
    have b12 := am_kdI hkd
    obtain ⟨as0, r, rfl, rfl, c1, c2, c3, c4⟩ := am_call12 b12 hcl
    subst c1
    have hsr : am_ss h.length rest := fun v hv => hst v (List.mem_append_right _ (List.mem_cons_of_mem _ hv))
    have hsa : am_ss h.length (.ref r :: as0) := am_ss.cn (hst _ (List.mem_append_right _ List.mem_cons_self)) (fun v hv => hst v (List.mem_append_left _ (List.mem_reverse.mpr hv)))
    rcases b12 with rfl | rfl
    · simp only [am_okb, am_okb1, am_call_ok, Bool.and_eq_true, decide_eq_true_eq] at hok
      simp only [am_lni] at hok
      obtain ⟨⟨hd, hnx⟩, hq, ⟨w1, w2⟩, w3⟩ := hok
      obtain ⟨hJ, k1, k2, k3, k4⟩ := am_ML_ok _ hq
      have hM := am_met FR hJ hr c4 l (D := D) (τ := τ) (ρ := ρ) hsa hh hdm H.size
      refine cont (aA := (Value.ref (ρ r) :: as0.map (am_t ρ)).toArray) hnx hsr ?_
      dsimp only at k4
      rw [k4] at hM
      refine va_runI (As := as0.map (am_t ρ)) (b := ρ r) ⟨hx, hb, hml, hown, hts⟩ hM (cwI (am_nc j) hts (am_gin ?_) rfl rfl rfl (hts _ hJ.2.1) (hts _ k1) (hts _ k2) k3 hJ.2.2.2.2 ⟨by show am_D j + 1 ≤ R.frames; omega, by show 8 + (am_ml j + 11) + am_Lo j ≤ R.locals; omega⟩) ⟨blind _, pre _⟩ rfl (by rw [List.length_map, c2, w1]) hl.1 (by simp [List.map_reverse, am_t]) (lv_room (am_room_le c3)) hd ⟨hcel, hslo⟩
      intro w hw
      rw [← k4] at hw
      exact hmem w hw hJ
    · simp only [am_okb, am_okb1, am_call_ok, Bool.and_eq_true, decide_eq_true_eq] at hok
      simp only [am_lni] at hok
      obtain ⟨⟨hd, hnx⟩, hq, ⟨w1, w2⟩, w3⟩ := hok
      obtain ⟨hJ, k1, k2, k3, k4⟩ := am_ML_ok _ hq
      have hM := am_met FR hJ hr c4 l (D := D) (τ := τ) (ρ := ρ) hsa hh hdm H.size
      refine cont (aA := (Value.ref (ρ r) :: as0.map (am_t ρ)).toArray) hnx hsr ?_
      dsimp only at k4
      rw [k4] at hM
      refine va_runIN (As := as0.map (am_t ρ)) (b := ρ r) ⟨hx, hb, hml, hown, hts⟩ hM ⟨va_cnB (am_nc j) hts (am_gin ?_) rfl rfl rfl (hX.2.2.2.2.2.1 _ k1) (hts _ hJ.2.1) hJ.2.2.2.2 ⟨by show am_D j + 1 ≤ R.frames; omega, by show 8 + (am_ml j + 11) + am_Lo j ≤ R.locals; omega⟩, k3, hts _ k2⟩ ⟨blind _, pre _⟩ rfl (by rw [List.length_map, c2, w1]) hl.1 (by simp [List.map_reverse, am_t]) (lv_room (am_room_le c3)) hd ⟨hcel, hslo⟩
      intro w hw
      rw [← k4] at hw
      exact hmem w hw hJ
  | ireturn => cases hkd
  | lreturn => cases hkd
  | areturn => cases hkd
  | return_ => cases hkd
  | _ => cases hkd
end CALLS
theorem am_frame : ∀ n, am_FRAME n := by
  intro n
  induction n with
  | zero =>
    intro p l e R s mm args below meth c Q m D τ A L xs n0 ρ0 C1 S1 r h' F hA hX hK h6 hC hS1 hend pc ls st h ρ H locs lsC cells slots hrun I hc hs
    simp [am_run] at hrun
  | succ n ih =>
    intro p l e R s mm args below meth c Q m D τ A L xs n0 ρ0 C1 S1 r h' F hA hX hK h6 hC hS1 hend pc ls st h ρ H locs lsC cells slots hrun I hc hs
    rw [am_run] at hrun
    cases he : am_E m pc with
    | none => rw [he] at hrun; cases hrun
    | some en =>
      obtain ⟨i, nx, a, b, cc, k, lv⟩ := en
      rw [he] at hrun
      have hok := am_E_ok he
      try dsimp only at hrun
      match hk : am_kd i b with
      | 0 =>
        rw [hk] at hrun
        try dsimp only at hrun
        cases hst : am_s am_df am_ft i nx a b k lv ls st h with
        | none => rw [hst] at hrun; cases hrun
        | some o =>
          obtain ⟨g, pc', ls', st', h1⟩ := o
          rw [hst] at hrun
          try dsimp only at hrun
          by_cases hg : g
          · rw [if_pos hg] at hrun
            have l1 := am_s_le hst
            have l2 := am_run_le n hrun
            obtain ⟨l11, l12⟩ := l1
            obtain ⟨l21, l22⟩ := l2
            exact am_sim F hA hX hK h6 i hok hk hst hg I (by omega) (by omega) (fun ρ' H' locs' lsC' I' => ih F hA hX hK h6 hC hS1 hend hrun I' (by omega) (by omega))
          · rw [if_neg hg] at hrun; cases hrun
      | 1 =>
        rw [hk] at hrun
        try dsimp only at hrun
        cases hst : am_call am_kc am_ml a b cc st h with
        | none => rw [hst] at hrun; cases hrun
        | some o =>
          obtain ⟨j, as, rest⟩ := o
          rw [hst] at hrun
          try dsimp only at hrun
          cases hr : am_run n j 0 (am_ent (am_ml j) as) [] h with
          | none => rw [hr] at hrun; cases hrun
          | some o =>
            obtain ⟨r1, h1⟩ := o
            rw [hr] at hrun
            try dsimp only at hrun
            obtain ⟨l11, l12⟩ := am_run_le n hr
            obtain ⟨l21, l22⟩ := am_run_le n hrun
            exact am_callstep ih F hA hX hK h6 hok hk hst hr I (by omega) (by omega) (fun ρ' H' locs' I' => ih F hA hX hK h6 hC hS1 hend hrun I' (by omega) (by omega))
      | 2 =>
        rw [hk] at hrun
        try dsimp only at hrun
        cases hst : am_ret i a st with
        | none => rw [hst] at hrun; cases hrun
        | some o =>
          obtain ⟨g, r1⟩ := o
          rw [hst] at hrun
          try dsimp only at hrun
          by_cases hg : g
          · rw [if_pos hg] at hrun
            cases hrun
            have e1 := am_ret_st hst
            subst e1
            obtain ⟨hP, hD, hS, hl, hss, hh, hdm, hn0, hρ⟩ := I
            rw [show C1 = cells by omega, show S1 = slots by omega] at hend
            exact hend ⟨hP, hD, hS, ⟨hl.1, hl.2.1, fun i v hv => by simp [am_get] at hv⟩, hss, hh, hdm, hn0, hρ⟩ hok hk hst hg
          · rw [if_neg hg] at hrun; cases hrun
      | k + 3 => rw [hk] at hrun; cases hrun
end
section
/-! THE CLAIM OUT OF ONE WALK OF THE LAW'S BODY. Your part is whole_start (and what it stands on); all else here is the same for every law, but numbers. -/
def R_law : String := "TextIndicesLaw"
def lw_P (b : Addr) (xs : List Int32) (args : Array Value) (s : State) : Prop := args = #[.ref b] ∧ s.IntsAt b xs ∧ xs.length ≤ 2048 ∧ (Jvm.Cond.and given_1 narrow_1).before args s = true
def lw_Q (_ : Array Value) (s : State) (o : Outcome) (t : State) : Prop := o = .returned (some (.int 1)) ∧ Framed s o t [] 600000 7302250
def lw_Z (below : List Frame) (a : Array Value) (s : State) : State → Prop := fun t => ∃ o, t.status = .running ∧ Ended t below o ∧ lw_Q a s o t
/-- the law's own end, with 1 on the stack, nothing written that was there before, its room as the claim has it -/
theorem lw_ret {p : Program} {l : Launch} {e : Env} {s : State} {m : MethodId} {below : List Frame} {meth : Method} {c : Code} {b : Nat} (hx : p.tables.exec = Jvm.exec) (hb : c.code = code) (hr : meth.sig.returnType = ret) (hlocks : meth.locks = false) {pc : Nat} {H : Heap} {ls : Array Slot} (hdg : decode code pc = .ok (.ireturn, 1)) : W p l e room_1 s m #[Value.ref b] below meth c H [] 600000 7302250 (lw_Z below #[Value.ref b] s) (F0 m pc ls [.int 1]) := by
  intro T hT X
  obtain ⟨fs, hret, hrun, hended, hW, hframe⟩ := X.leave (v := some (.int 1)) (hlocks := hlocks) (fun h => by rw [hr] at h; cases h)
  have hmeth' : T.vm.method? m = some meth := X.method'
  refine ⟨T.setFrames fs, ?_, .returned (some (.int 1)), hrun, hended, rfl, ⟨_, rfl⟩, hW, hframe⟩
  jvm_step X.here [X.here.top, hx, hb, hdg, hmeth', hr, ret, narrow_b1]
  (try refine ⟨rfl, ?_⟩); (try refine ⟨rfl, ?_⟩)
  first | (intro acts; rw [hret _ acts rfl rfl rfl]) | rw [hret _ _ rfl rfl rfl]
  exact Steps.refl _
/-- what holds at the law's entry: the machine, the code, the tables' words (any of lw_tbl by 'hts w (by decide +kernel)'), the script of L ints xs at the cell b, what the Statement gives of the start (any of its parts by flat_of_before) -/
def lw_At (p : Program) (s : State) (m : MethodId) (meth : Method) (c : Code) (b L : Nat) (xs : Nat → Int32) : Prop :=
  p.tables.exec = Jvm.exec ∧ c.code = code ∧ meth.sig.returnType = ret ∧ c.maxLocals = 4 ∧ s.vm.findClass R_law = some m.cls ∧ (∀ w ∈ lw_tbl, w.before #[Value.ref b] s = true) ∧ va_X b L xs s s.heap ∧ b < s.heap.size ∧ meth.locks = false ∧ (Jvm.Cond.and given_1 narrow_1).before #[Value.ref b] s = true
theorem am_QL_ao (C : String) (h : C = "java/lang/Object" ∨ C = "TextIndices$Language") : Cond.arrayOver (.object C) ∈ lw_tbl := by
  rcases h with rfl | rfl
  · exact tn 591 (by decide +kernel)
  · exact tn 115 (by decide +kernel)
/-! ===== the law's start ===== -/
/-- the heap before the law: what the abstract machine knows of it -/
def am_h0 (L : Nat) (xs : Nat → Int32) : List am_C := [.inl (4, (0, .inr (.inr (.inr (.inr fun _ => none))))), .inr (99, []), .inr (99, []), .inr (99, []), .inr (99, []), .inl (0, (L, .inl xs))]
theorem am_dom {s : State} {args : Array Value} (hts : ∀ w ∈ am_T, w.before args s = true) (hao : (Cond.arrayOver (.object "java/lang/Object")).before args s = true) (hal : (Cond.arrayOver (.object "TextIndices$Language")).before args s = true) : ∃ (D : va_G) (τ : Nat → ClassId), va_K D am_cl (am_tys τ) s := by
  have hC : ∀ ci : Nat, ∃ z : ClassId × (Nat → Nat), ∀ q : vw_C, am_cl[ci]? = some q → u_Kn s q.1 q.2.1 q.2.2 z.1 z.2 := by
    intro ci
    cases hq : am_cl[ci]? with
    | none => exact ⟨(0, fun _ => 0), fun q h => by cases h⟩
    | some q =>
      obtain ⟨C, T, N⟩ := q
      obtain ⟨k1, k2, k3, k4, k5, k6, k7⟩ := am_okC_all ci C T N hq
      obtain ⟨cC, iS, hk⟩ := u_known hts k1 (hts _ k4)
      exact ⟨(cC, iS), fun q h => by cases h; exact hk⟩
  obtain ⟨z, hz⟩ := Classical.axiomOfChoice hC
  have hP : ∀ {ty : FieldType}, (Cond.arrayClass ty).before args s = true → ∃ cA, ArrOfT s cA ty ∧ s.vm.findClass ("[" ++ ty.toString) = some cA := by
    intro ty h
    obtain ⟨cA, kA, comp, h1, h2, h3⟩ := Cond.arrayClass_spec h
    exact ⟨cA, fun n z => ⟨fun k h => (by cases h), kA, h2, comp, h3⟩, h1⟩
  have hO : ∀ {C : String}, (Cond.arrayOver (.object C)).before args s = true → ∃ cA, ArrOfT s cA (.object C) ∧ va_RA s cA (.object C) := by
    intro C h
    obtain ⟨comp, cA, kA, h1, h2, h3, h4, h5⟩ := Cond.arrayOver_spec h
    exact ⟨cA, fun n z => ⟨fun k h => (by cases h), kA, h3, comp, h4⟩, kA, comp, h3, h4, h1, h5⟩
  obtain ⟨c0, a0, b0⟩ := hP (ty := .int) (hts _ am_ac_int)
  obtain ⟨c1, a1, b1⟩ := hP (ty := .byte) (hts _ am_ac_byte)
  obtain ⟨c2, a2, b2⟩ := hP (ty := .boolean) (hts _ am_ac_boolean)
  obtain ⟨c3, a3, b3⟩ := hP (ty := .long) (hts _ am_ac_long)
  obtain ⟨c4, a4, b4⟩ := hO hao
  obtain ⟨c5, a5, b5⟩ := hO hal
  refine ⟨(fun ci => (z ci).1, fun ci => (z ci).2), fun k => match k with
    | 0 => c0
    | 1 => c1
    | 2 => c2
    | 3 => c3
    | 4 => c4
    | _ => c5, fun ci q h => hz ci q h, fun k q h => ?_⟩
  match k, h with
  | 0, h => cases h; exact ⟨a0, b0⟩
  | 1, h => cases h; exact ⟨a1, b1⟩
  | 2, h => cases h; exact ⟨a2, b2⟩
  | 3, h => cases h; exact ⟨a3, b3⟩
  | 4, h => cases h; exact ⟨a4, b4⟩
  | 5, h => cases h; exact ⟨a5, b5⟩
  | k + 6, h => simp [am_tys] at h
theorem am_ext0 {s : State} {b L : Nat} {xs : Nat → Int32} (hts0 : ∀ w ∈ lw_tbl, w.before #[Value.ref b] s = true) (hX : va_X b L xs s s.heap) (hbl : b < s.heap.size) (hgv : (Jvm.Cond.and given_1 narrow_1).before #[Value.ref b] s = true) : ∃ ρ : Nat → Nat, ρ 5 = b ∧ am_ext ρ L xs (fun q => s.heap.size ≤ q) s s.heap := by
  have hs := flat_of_before _ hgv
  have hts : ∀ w ∈ am_T, w.before #[Value.ref b] s = true := fun w hw => hts0 w (am_T_in w hw)
  have hA : ∀ a : Nat, a < s.heap.size → ¬ (fun q : Nat => s.heap.size ≤ q) a := fun a h q => absurd h (Nat.not_lt.mpr q)
  obtain ⟨t0, ht0, hT⟩ := va_Tof (tm := .static "java/util/ArrayList" "DEFAULTCAPACITY_EMPTY_ELEMENTDATA" "[Ljava/lang/Object;") (ty := .object "java/lang/Object") (N := 0) (f := fun _ => .null) (A := fun q => s.heap.size ≤ q) (args := #[Value.ref b]) (s := s) (by decide) (hs _ (by decide +kernel)) (va_eqt (hs _ (by decide +kernel))) (fun j hj => absurd hj (Nat.not_lt_zero j)) hA
  obtain ⟨k1, k2, k3, k4, k5, k6, k7⟩ := am_okC_all 5 _ _ _ rfl
  have hZ := va_Zof (hts0 _ am_ls_DEFA) (hts _ k5) ht0 hA
  obtain ⟨ad, hE⟩ := va_Ecof (args := #[Value.ref b]) (s := s) (SC := "TextIndices$Kind") (E := "TextIndices$Kind") (d := "LTextIndices$Kind;") (nm := ["WORD", "BEGINNING", "PHRASE"]) (F := []) (A := fun q => s.heap.size ≤ q)
    (fun i hi => by
      match i, hi with
      | 0, _ => exact hts0 _ am_ls_WORD
      | 1, _ => exact hts0 _ am_ls_BEGI
      | 2, _ => exact hts0 _ am_ls_PHRA
      | i + 3, hi => simp at hi; omega)
    (hts _ am_ini_Kind)
    (fun i hi => by
      match i, hi with
      | 0, _ => exact hs _ (by decide +kernel)
      | 1, _ => exact hs _ (by decide +kernel)
      | 2, _ => exact hs _ (by decide +kernel)
      | i + 3, hi => simp at hi; omega)
    (fun q hq => by cases hq)
    (fun i j hi hj hij => by
      match i, j, hi, hj, hij with
      | 0, 0, _, _, h => exact absurd rfl h
      | 0, 1, _, _, _ => exact Or.inr (hs _ (by decide +kernel))
      | 0, 2, _, _, _ => exact Or.inr (hs _ (by decide +kernel))
      | 1, 0, _, _, _ => exact Or.inl (hs _ (by decide +kernel))
      | 1, 1, _, _, h => exact absurd rfl h
      | 1, 2, _, _, _ => exact Or.inr (hs _ (by decide +kernel))
      | 2, 0, _, _, _ => exact Or.inl (hs _ (by decide +kernel))
      | 2, 1, _, _, _ => exact Or.inl (hs _ (by decide +kernel))
      | 2, 2, _, _, h => exact absurd rfl h
      | i + 3, _, hi, _, _ => simp at hi; omega
      | _, j + 3, _, hj, _ => simp at hj; omega)
    hA
  obtain ⟨mi, hM⟩ := va_Mi.of (args := #[Value.ref b]) (s := s) (C := "[Ljava/lang/Object;") (hs _ (by decide +kernel))
  refine ⟨fun k => match k with
    | 0 => t0
    | 1 => ad 0
    | 2 => ad 1
    | 3 => ad 2
    | 4 => mi
    | _ => b, rfl, ?_, ⟨_, hT⟩, ?_, hM, ⟨hX, hbl, hA b hbl⟩, fun w hw => ?_, va_Dc.of (hts0 _ am_w_gc.1), va_AO.of (hts0 _ (am_QL_ao "java/lang/Object" (Or.inl rfl))), va_AO.of (hts0 _ (am_QL_ao "TextIndices$Language" (Or.inr rfl)))⟩
  · intro x C n d hx
    match x, hx with
    | 0, hx => cases hx; exact hZ
    | 1, hx => cases hx; exact (hE.1 0 (by decide)).1
    | 2, hx => cases hx; exact (hE.1 1 (by decide)).1
    | 3, hx => cases hx; exact (hE.1 2 (by decide)).1
    | x + 4, hx => simp [am_xs] at hx
  · intro i j i1 i2 j1 j2 e
    match i, j, i1, i2, j1, j2, e with
    | 1, 1, _, _, _, _, _ => rfl
    | 1, 2, _, _, _, _, e => exact absurd (hE.2 0 1 (by decide) (by decide) e) (by decide)
    | 1, 3, _, _, _, _, e => exact absurd (hE.2 0 2 (by decide) (by decide) e) (by decide)
    | 2, 1, _, _, _, _, e => exact absurd (hE.2 1 0 (by decide) (by decide) e) (by decide)
    | 2, 2, _, _, _, _, _ => rfl
    | 2, 3, _, _, _, _, e => exact absurd (hE.2 1 2 (by decide) (by decide) e) (by decide)
    | 3, 1, _, _, _, _, e => exact absurd (hE.2 2 0 (by decide) (by decide) e) (by decide)
    | 3, 2, _, _, _, _, e => exact absurd (hE.2 2 1 (by decide) (by decide) e) (by decide)
    | 3, 3, _, _, _, _, _ => rfl
    | 0, _, i1, _, _, _, _ => omega
    | i + 4, _, _, i2, _, _, _ => omega
    | _, 0, _, _, j1, _, _ => omega
    | _, j + 4, _, _, _, j2, _ => omega
  · have hb := hts0 w (am_NW_in w hw)
    rcases am_NW_use hw with ⟨own, ix, y, hst, rfl⟩ | ⟨C, T, rfl⟩
    · exact va_Nw.of rfl hb
    · exact va_Nw.of rfl hb
/-- THE LAW, out of one run of the abstract machine -/
theorem law_start {p : Program} {e : Env} {s : State} {m : MethodId} {below : List Frame} {meth : Method} {c : Code} (l : Launch) {b L : Nat} {xs : Nat → Int32} (C0 : lw_At p s m meth c b L xs) {n : Nat} {h' : List am_C} (hrun : am_run n m_Law_law 0 [some (.ref 5), none, none, none] [] (am_h0 L xs) = some (some (.int 1), h')) (hc : h'.length ≤ 600006) (hz : am_sz h' ≤ am_sz (am_h0 L xs) + 7302250) :
    W p l e room_1 s m #[Value.ref b] below meth c s.heap [] 0 0 (lw_Z below #[Value.ref b] s) (entryFrame m ([Value.ref b] : List Value).toArray 4) := by
  obtain ⟨hx, hb, hr, hml, hown, hts0, hX, hbl, hlocks, hgv⟩ := C0
  have hts : ∀ w ∈ am_T, w.before #[Value.ref b] s = true := fun w hw => hts0 w (am_T_in w hw)
  obtain ⟨D, τ, hK⟩ := am_dom hts (hts0 _ (am_QL_ao "java/lang/Object" (Or.inl rfl))) (hts0 _ (am_QL_ao "TextIndices$Language" (Or.inr rfl)))
  obtain ⟨ρ0, e5, hext⟩ := am_ext0 hts0 hX hbl hgv
  have hl := lv_entry ([.ref b]) (n := 4) (Nat.le_of_ble_eq_true rfl)
  rw [lg_entry_eq]
  generalize (lg_sl ([.ref b]) ++ List.replicate (4 - (lg_sl ([.ref b])).length) Slot.unset).toArray = lsC at hl ⊢
  have hC1 : h'.length - 6 ≤ room_1.cells := by show _ ≤ 600000; omega
  have hS1 : am_sz h' - am_sz (am_h0 L xs) ≤ room_1.slots := by show _ ≤ 7302250; omega
  have hw : am_w ρ0 τ (am_h0 L xs) = [] := rfl
  refine am_frame n (m := m_Law_law) (A := fun q => s.heap.size ≤ q) (D := D) (τ := τ) (L := L) (xs := xs) (n0 := 6) (ρ0 := ρ0) (ρ := ρ0) (C1 := h'.length - 6) (S1 := am_sz h' - am_sz (am_h0 L xs)) (st := []) ⟨hx, hb, hml, hown, hts, by decide, by decide, fun q => absurd q (by decide)⟩ (fun q h => h) hext hK (Nat.le_refl 6) hC1 hS1 ?_ hrun ⟨?_, ?_, va_S.rf, ⟨hl.1, hl.2.1, ?_⟩, fun v hv => (by cases hv), ?_, ⟨Nat.le_refl 6, rfl, ?_, rfl⟩, Nat.le_refl 6, fun _ _ => rfl⟩ (Nat.zero_add _) (Nat.zero_add _)
  · intro ρ H locs lsC2 pc i nx a b2 cc k lv g I hok hkd hrt hg
    obtain ⟨iP, iD, iS, il, ist, ih, idm, in0, iρ⟩ := I
    cases i with
    | ireturn =>
      simp only [am_okb, am_okb1, Bool.and_eq_true, decide_eq_true_eq] at hok
      simp only [am_lni] at hok
      obtain ⟨⟨hd, -⟩, -⟩ := hok
      refine va_forget (fun q hq => iS.2.2 q hq) ?_
      refine W.widen (k := 600000) (n := 7302250) hC1 hS1 ?_
      exact lw_ret hx hb hr hlocks hd
    | return_ => simp [am_ret] at hrt
    | lreturn => simp [am_ret] at hrt
    | areturn => simp [am_ret] at hrt
    | _ => simp [am_ret] at hrt
  · rw [hw]; exact fun k q h => by simp at h
  · rw [hw]; exact ⟨fun i j p q h => by simp at h, fun k q h => by simp at h⟩
  · intro i v hv
    match i, hv with
    | 0, hv =>
      cases hv
      refine ⟨by show 5 < 6; decide, ?_⟩
      show lsC[0]? = some (.val (.ref (ρ0 5)))
      rw [e5]
      exact lv_at hl 0 rfl
    | 1, hv => cases hv
    | 2, hv => cases hv
    | 3, hv => cases hv
    | i + 4, hv => simp [am_get] at hv
  · intro c hc
    simp only [am_h0, List.mem_cons, List.not_mem_nil, or_false] at hc
    rcases hc with rfl | rfl | rfl | rfl | rfl | rfl
    · exact fun i k h => by cases h
    · exact fun v hv => by cases hv
    · exact fun v hv => by cases hv
    · exact fun v hv => by cases hv
    · exact fun v hv => by cases hv
    · trivial
  · intro k h1 h4
    match k, h1, h4 with
    | 1, _, _ => rfl
    | 2, _, _ => rfl
    | 3, _, _ => rfl
    | 4, _, _ => rfl
    | 0, h1, _ => omega
    | k + 5, _, h4 => omega
end
section
/-! ===== the heap behind the law's two constructors ===== -/
/-- the reference's cells: I its numbers (0 size, 1 texts, 2 gone, 3 stops, 4 taped, 5 parts, 6 asked, 7 at, 8 fault, 9 answered, 10 liked, 11 shownSize), B its rows of ints (0 bytes, 1 lengths, 2 tape, 3 languages, 4 fields, 5 counts, 6 froms, 7 fulls, 8 stopLanguages, 9 rules, 10 tapedFroms, 11 tapedFulls, 12 partRows, 13 partSorts, 14 partFirsts, 15 partCounts, 16 answers, 17 changes, 18 shown, 19 table), S the scores -/
def am_M (I : Nat → Int32) (B : Nat → Nat → Int32) (S : Nat → Int64) (k : Nat) : am_C := match k with
  | 0 => .inr (8, [.ref 49, .ref 50, .ref 51, .int (I 0), .ref 52, .ref 53, .ref 54, .ref 55, .ref 56, .int (I 1), .int (I 2), .ref 57, .int (I 3), .ref 58, .int (I 4), .ref 59, .ref 60, .ref 61, .ref 62, .ref 63, .ref 64, .int (I 5), .int (I 6), .int (I 7), .int (I 8), .ref 65, .ref 66, .int (I 9), .ref 67, .int (I 10), .ref 68, .int (I 11), .ref 69])
  | 1 => .inl (1, (72408, .inl (B 0)))
  | 2 => .inl (0, (6034, .inl (B 1)))
  | 3 => .inl (1, (96, .inl (B 2)))
  | 4 => .inl (0, (40, .inl (B 3)))
  | 5 => .inl (0, (40, .inl (B 4)))
  | 6 => .inl (0, (40, .inl (B 5)))
  | 7 => .inl (0, (1920, .inl (B 6)))
  | 8 => .inl (0, (1920, .inl (B 7)))
  | 9 => .inl (0, (2000, .inl (B 8)))
  | 10 => .inl (0, (3, .inl (B 9)))
  | 11 => .inl (0, (48, .inl (B 10)))
  | 12 => .inl (0, (48, .inl (B 11)))
  | 13 => .inl (0, (96, .inl (B 12)))
  | 14 => .inl (0, (96, .inl (B 13)))
  | 15 => .inl (0, (96, .inl (B 14)))
  | 16 => .inl (0, (96, .inl (B 15)))
  | 17 => .inl (0, (40, .inl (B 16)))
  | 18 => .inl (3, (40, .inr (.inl S)))
  | 19 => .inl (0, (1920, .inl (B 17)))
  | 20 => .inl (1, (12, .inl (B 18)))
  | _ => .inl (0, (169, .inl (B 19)))
def am_lg (i : Nat) : Option Nat := match i with
  | 0 => some 13
  | 1 => some 17
  | 2 => some 21
  | _ => none
/-- the class's cells: J its numbers (0 tape.length, 1 tape.found, 2 rules0, 3 rules1, 4 rules2, 5 stopCount0, 6 stopCount1, 7 stopCount2, 8 shelf.count, 9 shelf.wordCount, 10 soughtCount, 11 termCount, 12 place, 13 row, 14 modCount, 15 parts.size, 16 answers.count, 17 likes.count, 18 modelLength), N its rows of ints (0 symbols, 1 starts, 2 sizes, 3 tongues, 4 fields, 5 gone, 6 firsts, 7 shelf.starts, 8 shelf.sizes, 9 numbers, 10 changes, 11 model, 12 other, 13 costs), G its rows of longs (0 tape.words, 1 endings0, 2 endings1, 3 endings2, 4 insteads0, 5 insteads1, 6 insteads2, 7 stops0, 8 stops1, 9 stops2, 10 shelf.words, 11 shelf.stems, 12 sought, 13 terms, 14 shares, 15 weights, 16 likes.words), U told, p where the three rows of stop words lie and (3) the list's row -/
def am_TC (L : Nat) (xs : Nat → Int32) (J : Nat → Int32) (N : Nat → Nat → Int32) (G : Nat → Nat → Int64) (U : Int64) (p : Nat → Nat) (k : Nat) : am_C := match k with
  | 0 => .inl (4, (0, .inr (.inr (.inr (.inr fun _ => none)))))
  | 1 => .inr (99, [])
  | 2 => .inr (99, [])
  | 3 => .inr (99, [])
  | 4 => .inr (99, [])
  | 5 => .inl (0, (L, .inl xs))
  | 6 => .inr (0, [.ref 7, .ref 12, .ref 25, .ref 34, .ref 39, .ref 42, .long U])
  | 7 => .inr (1, [.ref 8, .int (J 0), .ref 9, .ref 10, .ref 11, .int (J 1)])
  | 8 => .inl (0, (96, .inl (N 0)))
  | 9 => .inl (3, (48, .inr (.inl (G 0))))
  | 10 => .inl (0, (48, .inl (N 1)))
  | 11 => .inl (0, (48, .inl (N 2)))
  | 12 => .inl (5, (3, .inr (.inr (.inr (.inr am_lg)))))
  | 13 => .inr (2, [.int 0, .ref 14, .ref 15, .int (J 2), .ref (p 0), .int (J 5)])
  | 14 => .inl (3, (8, .inr (.inl (G 1))))
  | 15 => .inl (3, (8, .inr (.inl (G 4))))
  | 16 => .inl (3, (32, .inr (.inl (G 7))))
  | 17 => .inr (2, [.int 1, .ref 18, .ref 19, .int (J 3), .ref (p 1), .int (J 6)])
  | 18 => .inl (3, (8, .inr (.inl (G 2))))
  | 19 => .inl (3, (8, .inr (.inl (G 5))))
  | 20 => .inl (3, (32, .inr (.inl (G 8))))
  | 21 => .inr (2, [.int 2, .ref 22, .ref 23, .int (J 4), .ref (p 2), .int (J 7)])
  | 22 => .inl (3, (8, .inr (.inl (G 3))))
  | 23 => .inl (3, (8, .inr (.inl (G 6))))
  | 24 => .inl (3, (32, .inr (.inl (G 9))))
  | 25 => .inr (3, [.ref 26, .ref 27, .ref 28, .ref 29, .int (J 8), .ref 30, .ref 31, .ref 32, .ref 33, .int (J 9)])
  | 26 => .inl (0, (40, .inl (N 3)))
  | 27 => .inl (0, (40, .inl (N 4)))
  | 28 => .inl (2, (40, .inl (N 5)))
  | 29 => .inl (0, (41, .inl (N 6)))
  | 30 => .inl (3, (400, .inr (.inl (G 10))))
  | 31 => .inl (3, (400, .inr (.inl (G 11))))
  | 32 => .inl (0, (400, .inl (N 7)))
  | 33 => .inl (0, (400, .inl (N 8)))
  | 34 => .inr (4, [.ref 7, .ref 35, .ref 36, .int (J 10), .ref 37, .ref 38, .int (J 11), .int (J 12), .int (J 13)])
  | 35 => .inr (5, [.int (J 14), .ref (p 3), .int (J 15)])
  | 36 => .inl (3, (48, .inr (.inl (G 12))))
  | 37 => .inl (3, (48, .inr (.inl (G 13))))
  | 38 => .inl (3, (48, .inr (.inl (G 14))))
  | 39 => .inr (6, [.ref 40, .ref 41, .int (J 16)])
  | 40 => .inl (0, (40, .inl (N 9)))
  | 41 => .inl (3, (40, .inr (.inl (G 15))))
  | 42 => .inr (7, [.ref 43, .ref 44, .int (J 17), .ref 45, .int (J 18), .ref 46, .ref 47])
  | 43 => .inl (3, (400, .inr (.inl (G 16))))
  | 44 => .inl (0, (400, .inl (N 10)))
  | 45 => .inl (0, (12, .inl (N 11)))
  | 46 => .inl (0, (12, .inl (N 12)))
  | _ => .inl (0, (13, .inl (N 13)))
def am_hp (T M : Nat → am_C) (D : List am_C) : List am_C := T 0 :: T 1 :: T 2 :: T 3 :: T 4 :: T 5 :: T 6 :: T 7 :: T 8 :: T 9 :: T 10 :: T 11 :: T 12 :: T 13 :: T 14 :: T 15 :: T 16 :: T 17 :: T 18 :: T 19 :: T 20 :: T 21 :: T 22 :: T 23 :: T 24 :: T 25 :: T 26 :: T 27 :: T 28 :: T 29 :: T 30 :: T 31 :: T 32 :: T 33 :: T 34 :: T 35 :: T 36 :: T 37 :: T 38 :: T 39 :: T 40 :: T 41 :: T 42 :: T 43 :: T 44 :: T 45 :: T 46 :: T 47 :: M 0 :: M 1 :: M 2 :: M 3 :: M 4 :: M 5 :: M 6 :: M 7 :: M 8 :: M 9 :: M 10 :: M 11 :: M 12 :: M 13 :: M 14 :: M 15 :: M 16 :: M 17 :: M 18 :: M 19 :: M 20 :: M 21 :: D
end
section
/-! ===== the reference's words: μ a is the word at place a, as bytes ===== -/
def wm (B : Nat → Nat → Int32) (μ : Nat → List Nat) : Prop := ∀ a, a < 6034 → (μ a).length ≤ 12 ∧ B 1 a = nI (μ a).length ∧ (∀ k, k < (μ a).length → B 0 (12 * a + k) = nI ((μ a).getD k 0)) ∧ ∀ x ∈ μ a, x < 128
theorem nI_inj {a b : Nat} (ha : a < 2 ^ 31) (hb : b < 2 ^ 31) (h : nI a = nI b) : a = b := (nI_eq ha hb).mp h
theorem wm.at_lt {B : Nat → Nat → Int32} {μ : Nat → List Nat} (hw : wm B μ) {a k : Nat} (ha : a < 6034) : (μ a).getD k 0 < 128 := by
  rw [List.getD_eq_getElem?_getD]
  cases h : (μ a)[k]? with
  | none => simp
  | some x => exact (hw a ha).2.2.2 x (List.mem_of_getElem? h)
/-- true and false as the machine has them -/
noncomputable def b01 (P : Prop) : Int32 := @ite _ P (Classical.propDecidable P) 1 0
theorem b01_t {P : Prop} (h : P) : b01 P = 1 := if_pos h
theorem b01_f {P : Prop} (h : ¬ P) : b01 P = 0 := if_neg h
theorem b01_g (P : Prop) : b01 P = 0 ∨ b01 P = 1 := (Classical.em P).elim (fun h => Or.inr (b01_t h)) (fun h => Or.inl (b01_f h))
theorem b01_eq0 {P : Prop} : b01 P = 0 ↔ ¬ P := ⟨fun e h => by rw [b01_t h] at e; exact absurd e (by decide), b01_f⟩
theorem b01_iff {P P' : Prop} (h : P ↔ P') : b01 P = b01 P' := by rw [propext h]
section MWORDS
variable {T : Nat → am_C} {D : List am_C} {I : Nat → Int32} {B : Nat → Nat → Int32} {S : Nat → Int64} {μ : Nat → List Nat}
theorem c_byteOf (w k : Nat) (hw : 12 * w + k < 72408) : Do m_Mo_byteOf [.ref 48, .int (nI w), .int (nI k)] (am_hp T (am_M I B S) D) (fun r h' => r = some (.int (B 0 (12 * w + k))) ∧ h' = am_hp T (am_M I B S) D) := by
  have e : (12 : Int32) * nI w + nI k = nI (12 * w + k) := by
    rw [show (12 : Int32) = nI 12 from rfl, pk_mul, nI_add]
  iterate 7 refine go_s rfl rfl rfl trivial ?_
  refine go_s rfl rfl rfl ?_ ?_
  · rw [e]; exact vp_in_nI hw (by omega)
  refine go_r rfl rfl rfl trivial ⟨?_, rfl⟩
  rw [e, nI_clamp (by omega)]
/-- a byte of a word -/
theorem c_byteOf_w (hw : wm B μ) {a k : Nat} (ha : a < 6034) (hk : k < (μ a).length) : Do m_Mo_byteOf [.ref 48, .int (nI a), .int (nI k)] (am_hp T (am_M I B S) D) (fun r h' => r = some (.int (nI ((μ a).getD k 0))) ∧ h' = am_hp T (am_M I B S) D) := by
  have h12 := (hw a ha).1
  refine (c_byteOf a k (by omega)).mono fun r h' h => ?_
  rw [(hw a ha).2.2.1 k hk] at h
  exact h
theorem eq_of_getD {u v : List Nat} (hl : u.length = v.length) (h : ∀ j, j < u.length → u.getD j 0 = v.getD j 0) : u = v := by
  apply List.ext_getElem? 
  intro j
  by_cases hj : j < u.length
  · have h1 := h j hj
    rw [List.getD_eq_getElem?_getD, List.getD_eq_getElem?_getD, List.getElem?_eq_getElem hj, List.getElem?_eq_getElem (hl ▸ hj)] at h1
    rw [List.getElem?_eq_getElem hj, List.getElem?_eq_getElem (hl ▸ hj)]
    simpa using h1
  · rw [List.getElem?_eq_none (by omega), List.getElem?_eq_none (by omega)]
theorem l_same (hw : wm B μ) {a b : Nat} (ha : a < 6034) (hb : b < 6034) : ∀ (d k : Nat) (f : Int32), (μ a).length = k + d → ((f = 1 ∧ (μ a).length = (μ b).length ∧ ∀ j, j < k → (μ a).getD j 0 = (μ b).getD j 0) ∨ (f = 0 ∧ μ a ≠ μ b)) →
    Go m_Mo_same 24 [some (.ref 48), some (.int (nI a)), some (.int (nI b)), some (.int f), some (.int (nI k))] [] (am_hp T (am_M I B S) D) (fun r h' => r = some (.int (b01 (μ a = μ b))) ∧ h' = am_hp T (am_M I B S) D) := by
  obtain ⟨a12, aL, -, -⟩ := hw a ha
  obtain ⟨b12, bL, -, -⟩ := hw b hb
  have ca : (nI a).toNatClampNeg = a := nI_clamp (by omega)
  intro d
  induction d with
  | zero =>
    intro k f hk hf
    iterate 4 refine go_s rfl rfl rfl trivial ?_
    refine go_s rfl rfl rfl ?_ ?_
    · exact vp_in_nI ha (by omega)
    iterate 1 refine go_s rfl rfl rfl trivial ?_
    simp only [ca, aL]
    refine go_if (fun hc => ?_) (fun hc => ?_)
    · iterate 1 refine go_s rfl rfl rfl trivial ?_
      have e : f = b01 (μ a = μ b) := by
        rcases hf with ⟨rfl, h1, h2⟩ | ⟨rfl, h1⟩
        · rw [b01_t (eq_of_getD h1 (fun j hj => h2 j (by omega)))]
        · rw [b01_f h1]
      refine go_r rfl rfl rfl ?_ ⟨by rw [e], rfl⟩
      rcases hf with ⟨h0, -⟩ | ⟨h0, -⟩
      · exact Or.inr h0
      · exact Or.inl h0
    · exact absurd (nI_le (by omega) (by omega)) hc
  | succ d ih =>
    intro k f hk hf
    iterate 4 refine go_s rfl rfl rfl trivial ?_
    refine go_s rfl rfl rfl ?_ ?_
    · exact vp_in_nI ha (by omega)
    iterate 1 refine go_s rfl rfl rfl trivial ?_
    simp only [ca, aL]
    refine go_if (fun hc => ?_) (fun hc => ?_)
    · exact absurd hc (nI_ge (by omega) (by omega))
    · iterate 2 refine go_s rfl rfl rfl trivial ?_
      refine go_if (fun hc => ?_) (fun hc => ?_)
      · iterate 1 refine go_s rfl rfl rfl trivial ?_
        rcases hf with ⟨h0, -⟩ | ⟨h0, h1⟩
        · rw [h0] at hc; exact absurd hc (by decide)
        · exact go_r rfl rfl rfl (Or.inl h0) ⟨by rw [h0, b01_f h1], rfl⟩
      · rcases hf with ⟨rfl, h1, h2⟩ | ⟨h0, h1⟩
        · iterate 3 refine go_s rfl rfl rfl trivial ?_
          refine go_c rfl rfl rfl (c_byteOf_w hw ha (k := k) (by omega)) ?_
          rintro r h3 ⟨rfl, rfl⟩
          iterate 3 refine go_s rfl rfl rfl trivial ?_
          refine go_c rfl rfl rfl (c_byteOf_w hw hb (k := k) (by omega)) ?_
          rintro r h3 ⟨rfl, rfl⟩
          iterate 1 refine go_s rfl rfl rfl trivial ?_
          have la := hw.at_lt (k := k) ha
          have lb := hw.at_lt (k := k) hb
          refine go_if (fun hc => ?_) (fun hc => ?_)
          · iterate 4 refine go_s rfl rfl rfl trivial ?_
            rw [nI_1]
            refine ih (k + 1) 0 (by omega) (Or.inr ⟨rfl, fun q => hc ?_⟩)
            rw [q]
          · iterate 5 refine go_s rfl rfl rfl trivial ?_
            rw [nI_1]
            refine ih (k + 1) 1 (by omega) (Or.inl ⟨rfl, h1, fun j hj => ?_⟩)
            rcases Nat.lt_or_ge j k with hjk | hjk
            · exact h2 j hjk
            · rw [show j = k by omega]
              exact nI_inj (by omega) (by omega) (Classical.not_not.mp hc)
        · exact absurd h0 hc
theorem c_same (hw : wm B μ) {a b : Nat} (ha : a < 6034) (hb : b < 6034) : Do m_Mo_same [.ref 48, .int (nI a), .int (nI b)] (am_hp T (am_M I B S) D) (fun r h' => r = some (.int (b01 (μ a = μ b))) ∧ h' = am_hp T (am_M I B S) D) := by
  obtain ⟨a12, aL, -, -⟩ := hw a ha
  obtain ⟨b12, bL, -, -⟩ := hw b hb
  have ca : (nI a).toNatClampNeg = a := nI_clamp (by omega)
  have cb : (nI b).toNatClampNeg = b := nI_clamp (by omega)
  iterate 3 refine go_s rfl rfl rfl trivial ?_
  refine go_s rfl rfl rfl ?_ ?_
  · exact vp_in_nI ha (by omega)
  iterate 3 refine go_s rfl rfl rfl trivial ?_
  refine go_s rfl rfl rfl ?_ ?_
  · exact vp_in_nI hb (by omega)
  iterate 1 refine go_s rfl rfl rfl trivial ?_
  simp only [ca, cb, aL, bL]
  refine go_if (fun hc => ?_) (fun hc => ?_)
  · iterate 4 refine go_s rfl rfl rfl trivial ?_
    refine l_same hw ha hb (μ a).length 0 0 (by omega) (Or.inr ⟨rfl, fun q => hc (by rw [q])⟩)
  · iterate 5 refine go_s rfl rfl rfl trivial ?_
    refine l_same hw ha hb (μ a).length 0 1 (by omega) (Or.inl ⟨rfl, nI_inj (by omega) (by omega) (Classical.not_not.mp hc), fun j hj => by omega⟩)
end MWORDS
end
section
/-! ===== the reference's words: a byte more, a copy ===== -/
abbrev hM (T : Nat → am_C) (I : Nat → Int32) (B : Nat → Nat → Int32) (S : Nat → Int64) (D : List am_C) : List am_C := am_hp T (am_M I B S) D
/-- nothing but words has changed -/
def wsame (B B' : Nat → Nat → Int32) : Prop := ∀ i, 2 ≤ i → B' i = B i
theorem wsame.rf (B : Nat → Nat → Int32) : wsame B B := fun _ _ => rfl
theorem wsame.tr {B B1 B2 : Nat → Nat → Int32} (h1 : wsame B B1) (h2 : wsame B1 B2) : wsame B B2 := fun i hi => (h2 i hi).trans (h1 i hi)
theorem wm_len0 {B B' : Nat → Nat → Int32} {μ : Nat → List Nat} {a : Nat} (hw : wm B μ) (ha : a < 6034) (h0 : B' 0 = B 0) (h1 : B' 1 = upd (B 1) a 0) : wm B' (va_up μ a []) := by
  intro c hc
  by_cases e : c = a
  · subst e
    rw [va_up_self, h1]
    refine ⟨by simp, by rw [pk_us]; rfl, fun k hk => by simp at hk, fun x hx => by simp at hx⟩
  · rw [va_up_ne _ _ e, h0, h1, pk_un e]
    exact hw c hc
theorem wm_add {B B' : Nat → Nat → Int32} {μ : Nat → List Nat} {a x : Nat} (hw : wm B μ) (ha : a < 6034) (hl : (μ a).length < 12) (hx : x < 128) (h0 : B' 0 = upd (B 0) (12 * a + (μ a).length) (nI x)) (h1 : B' 1 = upd (B 1) a (nI ((μ a).length + 1))) : wm B' (va_up μ a (μ a ++ [x])) := by
  intro c hc
  by_cases e : c = a
  · subst e
    obtain ⟨w1, w2, w3, w4⟩ := hw c hc
    rw [va_up_self, h0, h1]
    refine ⟨by simp; omega, by rw [pk_us, List.length_append]; rfl, fun k hk => ?_, fun z hz => ?_⟩
    · rw [List.length_append, List.length_singleton] at hk
      rcases Nat.lt_or_ge k (μ c).length with hk2 | hk2
      · rw [pk_un (by omega), w3 k hk2, List.getD_eq_getElem?_getD, List.getD_eq_getElem?_getD, List.getElem?_append_left hk2]
      · have e2 : k = (μ c).length := by omega
        subst e2
        rw [pk_us, List.getD_eq_getElem?_getD, List.getElem?_append_right (Nat.le_refl _)]
        simp
    · rcases List.mem_append.mp hz with h | h
      · exact w4 z h
      · rw [List.mem_singleton.mp h]; exact hx
  · obtain ⟨w1, w2, w3, w4⟩ := hw c hc
    rw [va_up_ne _ _ e, h0, h1, pk_un e]
    exact ⟨w1, w2, fun k hk => by rw [pk_un (by omega)]; exact w3 k hk, w4⟩
section MCOPY
variable {T : Nat → am_C} {D : List am_C} {I : Nat → Int32} {B : Nat → Nat → Int32} {S : Nat → Int64} {μ : Nat → List Nat}
theorem nar_byte {x : Nat} (hx : x < 128) : vp_nar .byte ((nI x).toInt8.toInt32) = nI x := by
  have h : ∀ x : Nat, x < 128 → vp_nar .byte ((nI x).toInt8.toInt32) = nI x := by decide +kernel
  exact h x hx
theorem c_add (hw : wm B μ) {a x : Nat} (ha : a < 6034) (hx : x < 128) : Do m_Mo_add [.ref 48, .int (nI a), .int (nI x)] (hM T I B S D) (fun r h' => r = none ∧ ∃ B', h' = hM T I B' S D ∧ wsame B B' ∧ wm B' (va_up μ a (if (μ a).length = 12 then μ a else μ a ++ [x]))) := by
  obtain ⟨a12, aL, -, -⟩ := hw a ha
  have ca : (nI a).toNatClampNeg = a := nI_clamp (by omega)
  iterate 3 refine go_s rfl rfl rfl trivial ?_
  refine go_s rfl rfl rfl ?_ ?_
  · exact vp_in_nI ha (by omega)
  iterate 2 refine go_s rfl rfl rfl trivial ?_
  simp only [ca, aL]
  refine go_if (fun hc => ?_) (fun hc => ?_)
  · have hl : (μ a).length < 12 := by
      rcases Nat.lt_or_ge (μ a).length 12 with h | h
      · exact h
      · exact absurd (by rw [show (μ a).length = 12 by omega]; rfl) hc
    have e : (12 : Int32) * nI a + nI (μ a).length = nI (12 * a + (μ a).length) := by
      rw [show (12 : Int32) = nI 12 from rfl, pk_mul, nI_add]
    have ce : (nI (12 * a + (μ a).length)).toNatClampNeg = 12 * a + (μ a).length := nI_clamp (by omega)
    iterate 8 refine go_s rfl rfl rfl trivial ?_
    refine go_s rfl rfl rfl ?_ ?_
    · exact vp_in_nI ha (by omega)
    simp only [ca, aL]
    iterate 3 refine go_s rfl rfl rfl trivial ?_
    rw [e]
    refine go_s rfl rfl rfl ?_ ?_
    · exact vp_in_nI (by omega) (by omega)
    simp only [ce, nar_byte hx]
    iterate 4 refine go_s rfl rfl rfl trivial ?_
    refine go_s rfl rfl rfl ?_ ?_
    · exact vp_in_nI ha (by omega)
    iterate 2 refine go_s rfl rfl rfl trivial ?_
    refine go_s rfl rfl rfl ?_ ?_
    · exact vp_in_nI ha (by omega)
    simp only [ca, aL]
    refine go_r rfl rfl rfl trivial ⟨rfl, va_up (va_up B 0 (upd (B 0) (12 * a + (μ a).length) (nI x))) 1 (upd (B 1) a (nI (μ a).length + 1)), rfl, fun i hi => ?_, ?_⟩
    · rw [va_up_ne _ _ (by omega), va_up_ne _ _ (by omega)]
    · rw [if_neg (by omega)]
      exact wm_add hw ha hl hx rfl (by rw [va_up_self, nI_1])
  · refine go_r rfl rfl rfl trivial ⟨rfl, B, rfl, wsame.rf B, ?_⟩
    have e12 : (μ a).length = 12 := nI_inj (by omega) (by omega) (Classical.not_not.mp hc)
    rw [if_pos e12]
    have : va_up μ a (μ a) = μ := by
      funext j
      by_cases hj : j = a
      · subst hj; rw [va_up_self]
      · rw [va_up_ne _ _ hj]
    rw [this]
    exact hw
theorem l_copy {a b : Nat} (ha : a < 6034) (hb : b < 6034) (hab : a ≠ b) : ∀ (d k : Nat) (B : Nat → Nat → Int32) (μ : Nat → List Nat), wm B μ → (μ a).length = k + d → μ b = (μ a).take k →
    Go m_Mo_copy 9 [some (.ref 48), some (.int (nI a)), some (.int (nI b)), some (.int (nI k))] [] (hM T I B S D) (fun r h' => r = none ∧ ∃ B', h' = hM T I B' S D ∧ wsame B B' ∧ wm B' (va_up μ b (μ a))) := by
  have ca : (nI a).toNatClampNeg = a := nI_clamp (by omega)
  intro d
  induction d with
  | zero =>
    intro k B μ hw hk hb2
    obtain ⟨a12, aL, -, -⟩ := hw a ha
    iterate 4 refine go_s rfl rfl rfl trivial ?_
    refine go_s rfl rfl rfl ?_ ?_
    · exact vp_in_nI ha (by omega)
    iterate 1 refine go_s rfl rfl rfl trivial ?_
    simp only [ca, aL]
    refine go_if (fun hc => ?_) (fun hc => ?_)
    · refine go_r rfl rfl rfl trivial ⟨rfl, B, rfl, wsame.rf B, ?_⟩
      have : va_up μ b (μ a) = μ := by
        funext j
        by_cases hj : j = b
        · subst hj; rw [va_up_self, hb2, List.take_of_length_le (by omega)]
        · rw [va_up_ne _ _ hj]
      rw [this]
      exact hw
    · exact absurd (nI_le (by omega) (by omega)) hc
  | succ d ih =>
    intro k B μ hw hk hb2
    obtain ⟨a12, aL, -, -⟩ := hw a ha
    iterate 4 refine go_s rfl rfl rfl trivial ?_
    refine go_s rfl rfl rfl ?_ ?_
    · exact vp_in_nI ha (by omega)
    iterate 1 refine go_s rfl rfl rfl trivial ?_
    simp only [ca, aL]
    refine go_if (fun hc => ?_) (fun hc => ?_)
    · exact absurd hc (nI_ge (by omega) (by omega))
    · iterate 5 refine go_s rfl rfl rfl trivial ?_
      refine go_c rfl rfl rfl (c_byteOf_w hw ha (k := k) (by omega)) ?_
      rintro r h3 ⟨rfl, rfl⟩
      have la := hw.at_lt (k := k) ha
      refine go_c rfl rfl rfl (c_add hw hb la) ?_
      rintro r h3 ⟨rfl, B1, rfl, hs1, hw1⟩
      iterate 2 refine go_s rfl rfl rfl trivial ?_
      rw [nI_1]
      have hl : (μ b).length = k := by rw [hb2, List.length_take]; omega
      rw [if_neg (by omega)] at hw1
      have e1 : va_up μ b (μ b ++ [(μ a).getD k 0]) a = μ a := va_up_ne _ _ hab
      refine (ih (k + 1) B1 _ hw1 (by rw [e1]; omega) ?_).mono fun r h' h => ?_
      · rw [e1, va_up_self, hb2]
        rw [List.getD_eq_getElem?_getD, List.take_succ]
        rw [List.getElem?_eq_getElem (by omega : k < (μ a).length)]
        rfl
      · obtain ⟨h1, B2, h2, h3, h4⟩ := h
        refine ⟨h1, B2, h2, hs1.tr h3, ?_⟩
        rw [e1] at h4
        have : va_up (va_up μ b (μ b ++ [(μ a).getD k 0])) b (μ a) = va_up μ b (μ a) := bx_uu _ _ _ _
        rw [this] at h4
        exact h4
/-- a word comes to another place -/
theorem c_copy (hw : wm B μ) {a b : Nat} (ha : a < 6034) (hb : b < 6034) (hab : a ≠ b) : Do m_Mo_copy [.ref 48, .int (nI a), .int (nI b)] (hM T I B S D) (fun r h' => r = none ∧ ∃ B', h' = hM T I B' S D ∧ wsame B B' ∧ wm B' (va_up μ b (μ a))) := by
  have cb : (nI b).toNatClampNeg = b := nI_clamp (by omega)
  iterate 4 refine go_s rfl rfl rfl trivial ?_
  refine go_s rfl rfl rfl ?_ ?_
  · exact vp_in_nI hb (by omega)
  simp only [cb]
  iterate 2 refine go_s rfl rfl rfl trivial ?_
  have hw0 : wm (va_up B 1 (upd (B 1) b 0)) (va_up μ b []) := wm_len0 hw hb rfl rfl
  have e1 : va_up μ b [] a = μ a := va_up_ne _ _ hab
  refine Go.mono (l_copy (T := T) (D := D) (I := I) (S := S) ha hb hab (μ a).length 0 (va_up B 1 (upd (B 1) b 0)) (va_up μ b []) hw0 (by rw [e1]; omega) (by rw [va_up_self]; rfl)) fun r h' h => ?_
  obtain ⟨h1, B2, h2, h3, h4⟩ := h
  refine ⟨h1, B2, h2, fun i hi => by rw [h3 i hi, va_up_ne _ _ (by omega)], ?_⟩
  rw [e1, bx_uu] at h4
  exact h4
end MCOPY
end
section
/-! ===== the reference's words: beginnings, endings, stop words, stems ===== -/
/-- v is the beginning of u; e is an ending of w with three bytes before it -/
def begP (u v : List Nat) : Prop := u.take v.length = v
def endP (w e : List Nat) : Prop := e.length + 3 ≤ w.length ∧ w.drop (w.length - e.length) = e
/-- u, from place o on, is v -/
def subP (u v : List Nat) (o k : Nat) : Prop := ∀ j, j < k → u.getD (o + j) 0 = v.getD j 0
theorem subP_drop {u v : List Nat} {o : Nat} (h : subP u v o v.length) (hl : o + v.length ≤ u.length) : (u.drop o).take v.length = v := by
  apply List.ext_getElem?
  intro j
  by_cases hj : j < v.length
  · have h1 := h j hj
    rw [List.getD_eq_getElem?_getD, List.getD_eq_getElem?_getD, List.getElem?_eq_getElem (by omega : o + j < u.length), List.getElem?_eq_getElem hj] at h1
    rw [List.getElem?_take_of_lt hj, List.getElem?_drop, List.getElem?_eq_getElem (by omega : o + j < u.length), List.getElem?_eq_getElem hj]
    simpa using h1
  · rw [List.getElem?_eq_none (by rw [List.length_take]; omega), List.getElem?_eq_none (by omega)]
theorem drop_subP {u v : List Nat} {o : Nat} (h : (u.drop o).take v.length = v) (j : Nat) (hj : j < v.length) : u.getD (o + j) 0 = v.getD j 0 := by
  have h1 : v.getD j 0 = ((u.drop o).take v.length).getD j 0 := by rw [h]
  rw [h1, List.getD_eq_getElem?_getD, List.getD_eq_getElem?_getD, List.getElem?_take_of_lt hj, List.getElem?_drop]
section MSTEM
variable {T : Nat → am_C} {D : List am_C} {I : Nat → Int32} {B : Nat → Nat → Int32} {S : Nat → Int64} {μ : Nat → List Nat}
theorem l_begins (hw : wm B μ) {a b : Nat} (ha : a < 6034) (hb : b < 6034) : ∀ (d k : Nat) (f : Int32), (μ b).length = k + d → ((f = 1 ∧ (μ b).length ≤ (μ a).length ∧ subP (μ a) (μ b) 0 k) ∨ (f = 0 ∧ ¬ begP (μ a) (μ b))) →
    Go m_Mo_beginsSo 24 [some (.ref 48), some (.int (nI a)), some (.int (nI b)), some (.int f), some (.int (nI k))] [] (hM T I B S D) (fun r h' => r = some (.int (b01 (begP (μ a) (μ b)))) ∧ h' = hM T I B S D) := by
  obtain ⟨a12, aL, -, -⟩ := hw a ha
  obtain ⟨b12, bL, -, -⟩ := hw b hb
  have cb : (nI b).toNatClampNeg = b := nI_clamp (by omega)
  intro d
  induction d with
  | zero =>
    intro k f hk hf
    iterate 4 refine go_s rfl rfl rfl trivial ?_
    refine go_s rfl rfl rfl ?_ ?_
    · exact vp_in_nI hb (by omega)
    iterate 1 refine go_s rfl rfl rfl trivial ?_
    simp only [cb, bL]
    refine go_if (fun hc => ?_) (fun hc => ?_)
    · iterate 1 refine go_s rfl rfl rfl trivial ?_
      have e : f = b01 (begP (μ a) (μ b)) := by
        rcases hf with ⟨rfl, h1, h2⟩ | ⟨rfl, h1⟩
        · rw [b01_t]
          have := subP_drop (o := 0) (u := μ a) (v := μ b) (fun j hj => h2 j (by omega)) (by omega)
          rwa [List.drop_zero] at this
        · rw [b01_f h1]
      refine go_r rfl rfl rfl ?_ ⟨by rw [e], rfl⟩
      rcases hf with ⟨h0, -⟩ | ⟨h0, -⟩
      · exact Or.inr h0
      · exact Or.inl h0
    · exact absurd (nI_le (by omega) (by omega)) hc
  | succ d ih =>
    intro k f hk hf
    iterate 4 refine go_s rfl rfl rfl trivial ?_
    refine go_s rfl rfl rfl ?_ ?_
    · exact vp_in_nI hb (by omega)
    iterate 1 refine go_s rfl rfl rfl trivial ?_
    simp only [cb, bL]
    refine go_if (fun hc => ?_) (fun hc => ?_)
    · exact absurd hc (nI_ge (by omega) (by omega))
    · iterate 2 refine go_s rfl rfl rfl trivial ?_
      refine go_if (fun hc => ?_) (fun hc => ?_)
      · iterate 1 refine go_s rfl rfl rfl trivial ?_
        rcases hf with ⟨h0, -⟩ | ⟨h0, h1⟩
        · rw [h0] at hc; exact absurd hc (by decide)
        · exact go_r rfl rfl rfl (Or.inl h0) ⟨by rw [h0, b01_f h1], rfl⟩
      · rcases hf with ⟨rfl, h1, h2⟩ | ⟨h0, h1⟩
        · iterate 3 refine go_s rfl rfl rfl trivial ?_
          refine go_c rfl rfl rfl (c_byteOf_w hw ha (k := k) (by omega)) ?_
          rintro r h3 ⟨rfl, rfl⟩
          iterate 3 refine go_s rfl rfl rfl trivial ?_
          refine go_c rfl rfl rfl (c_byteOf_w hw hb (k := k) (by omega)) ?_
          rintro r h3 ⟨rfl, rfl⟩
          iterate 1 refine go_s rfl rfl rfl trivial ?_
          have la := hw.at_lt (k := k) ha
          have lb := hw.at_lt (k := k) hb
          refine go_if (fun hc => ?_) (fun hc => ?_)
          · iterate 4 refine go_s rfl rfl rfl trivial ?_
            rw [nI_1]
            refine ih (k + 1) 0 (by omega) (Or.inr ⟨rfl, fun q => hc ?_⟩)
            have := drop_subP (u := μ a) (v := μ b) (o := 0) (by rw [List.drop_zero]; exact q) k (by omega)
            rw [Nat.zero_add] at this
            rw [this]
          · iterate 5 refine go_s rfl rfl rfl trivial ?_
            rw [nI_1]
            refine ih (k + 1) 1 (by omega) (Or.inl ⟨rfl, h1, fun j hj => ?_⟩)
            rcases Nat.lt_or_ge j k with hjk | hjk
            · exact h2 j hjk
            · rw [show j = k by omega, Nat.zero_add]
              exact nI_inj (by omega) (by omega) (Classical.not_not.mp hc)
        · exact absurd h0 hc
theorem c_beginsSo (hw : wm B μ) {a b : Nat} (ha : a < 6034) (hb : b < 6034) : Do m_Mo_beginsSo [.ref 48, .int (nI a), .int (nI b)] (hM T I B S D) (fun r h' => r = some (.int (b01 (begP (μ a) (μ b)))) ∧ h' = hM T I B S D) := by
  obtain ⟨a12, aL, -, -⟩ := hw a ha
  obtain ⟨b12, bL, -, -⟩ := hw b hb
  have ca : (nI a).toNatClampNeg = a := nI_clamp (by omega)
  have cb : (nI b).toNatClampNeg = b := nI_clamp (by omega)
  iterate 3 refine go_s rfl rfl rfl trivial ?_
  refine go_s rfl rfl rfl ?_ ?_
  · exact vp_in_nI ha (by omega)
  iterate 3 refine go_s rfl rfl rfl trivial ?_
  refine go_s rfl rfl rfl ?_ ?_
  · exact vp_in_nI hb (by omega)
  iterate 1 refine go_s rfl rfl rfl trivial ?_
  simp only [ca, cb, aL, bL]
  have hiff : nI (μ a).length < nI (μ b).length ↔ (μ a).length < (μ b).length := nI_ltI (by omega) (by omega)
  refine go_if (fun hc => ?_) (fun hc => ?_)
  · iterate 4 refine go_s rfl rfl rfl trivial ?_
    refine l_begins hw ha hb (μ b).length 0 0 (by omega) (Or.inr ⟨rfl, fun q => ?_⟩)
    have := congrArg List.length q
    rw [List.length_take] at this
    have := hiff.mp hc
    omega
  · iterate 5 refine go_s rfl rfl rfl trivial ?_
    have : ¬ (μ a).length < (μ b).length := fun q => hc (hiff.mpr q)
    exact l_begins hw ha hb (μ b).length 0 1 (by omega) (Or.inl ⟨rfl, by omega, fun j hj => by omega⟩)
theorem l_ends (hw : wm B μ) {a b o : Nat} (ha : a < 6034) (hb : b < 6034) (ho : (μ a).length = o + (μ b).length) : ∀ (d k : Nat) (f : Int32), (μ b).length = k + d → ((f = 1 ∧ 3 ≤ o ∧ subP (μ a) (μ b) o k) ∨ (f = 0 ∧ ¬ endP (μ a) (μ b))) →
    Go m_Mo_ends 29 [some (.ref 48), some (.int (nI a)), some (.int (nI b)), some (.int (nI o)), some (.int f), some (.int (nI k))] [] (hM T I B S D) (fun r h' => r = some (.int (b01 (endP (μ a) (μ b)))) ∧ h' = hM T I B S D) := by
  obtain ⟨a12, aL, -, -⟩ := hw a ha
  obtain ⟨b12, bL, -, -⟩ := hw b hb
  have cb : (nI b).toNatClampNeg = b := nI_clamp (by omega)
  have eo : (μ a).length - (μ b).length = o := by omega
  intro d
  induction d with
  | zero =>
    intro k f hk hf
    iterate 4 refine go_s rfl rfl rfl trivial ?_
    refine go_s rfl rfl rfl ?_ ?_
    · exact vp_in_nI hb (by omega)
    iterate 1 refine go_s rfl rfl rfl trivial ?_
    simp only [cb, bL]
    refine go_if (fun hc => ?_) (fun hc => ?_)
    · iterate 1 refine go_s rfl rfl rfl trivial ?_
      have e : f = b01 (endP (μ a) (μ b)) := by
        rcases hf with ⟨rfl, h1, h2⟩ | ⟨rfl, h1⟩
        · rw [b01_t]
          refine ⟨by omega, ?_⟩
          have := subP_drop (o := o) (u := μ a) (v := μ b) (fun j hj => h2 j (by omega)) (by omega)
          rw [eo]
          rwa [List.take_of_length_le (by rw [List.length_drop]; omega)] at this
        · rw [b01_f h1]
      refine go_r rfl rfl rfl ?_ ⟨by rw [e], rfl⟩
      rcases hf with ⟨h0, -⟩ | ⟨h0, -⟩
      · exact Or.inr h0
      · exact Or.inl h0
    · exact absurd (nI_le (by omega) (by omega)) hc
  | succ d ih =>
    intro k f hk hf
    iterate 4 refine go_s rfl rfl rfl trivial ?_
    refine go_s rfl rfl rfl ?_ ?_
    · exact vp_in_nI hb (by omega)
    iterate 1 refine go_s rfl rfl rfl trivial ?_
    simp only [cb, bL]
    refine go_if (fun hc => ?_) (fun hc => ?_)
    · exact absurd hc (nI_ge (by omega) (by omega))
    · iterate 2 refine go_s rfl rfl rfl trivial ?_
      refine go_if (fun hc => ?_) (fun hc => ?_)
      · iterate 1 refine go_s rfl rfl rfl trivial ?_
        rcases hf with ⟨h0, -⟩ | ⟨h0, h1⟩
        · rw [h0] at hc; exact absurd hc (by decide)
        · exact go_r rfl rfl rfl (Or.inl h0) ⟨by rw [h0, b01_f h1], rfl⟩
      · rcases hf with ⟨rfl, h1, h2⟩ | ⟨h0, h1⟩
        · iterate 5 refine go_s rfl rfl rfl trivial ?_
          rw [nI_add]
          refine go_c rfl rfl rfl (c_byteOf_w hw ha (k := o + k) (by omega)) ?_
          rintro r h3 ⟨rfl, rfl⟩
          iterate 3 refine go_s rfl rfl rfl trivial ?_
          refine go_c rfl rfl rfl (c_byteOf_w hw hb (k := k) (by omega)) ?_
          rintro r h3 ⟨rfl, rfl⟩
          iterate 1 refine go_s rfl rfl rfl trivial ?_
          have la := hw.at_lt (k := o + k) ha
          have lb := hw.at_lt (k := k) hb
          refine go_if (fun hc => ?_) (fun hc => ?_)
          · iterate 4 refine go_s rfl rfl rfl trivial ?_
            rw [nI_1]
            refine ih (k + 1) 0 (by omega) (Or.inr ⟨rfl, fun q => hc ?_⟩)
            have := drop_subP (u := μ a) (v := μ b) (o := o) (by rw [← eo, q.2, List.take_length]) k (by omega)
            rw [this]
          · iterate 5 refine go_s rfl rfl rfl trivial ?_
            rw [nI_1]
            refine ih (k + 1) 1 (by omega) (Or.inl ⟨rfl, h1, fun j hj => ?_⟩)
            rcases Nat.lt_or_ge j k with hjk | hjk
            · exact h2 j hjk
            · rw [show j = k by omega]
              exact nI_inj (by omega) (by omega) (Classical.not_not.mp hc)
        · exact absurd h0 hc
theorem l_ends0 (hw : wm B μ) {a b : Nat} (hb : b < 6034) (x : Int32) : Go m_Mo_ends 29 [some (.ref 48), some (.int (nI a)), some (.int (nI b)), some (.int x), some (.int 0), some (.int 0)] [] (hM T I B S D) (fun r h' => r = some (.int 0) ∧ h' = hM T I B S D) := by
  obtain ⟨b12, bL, -, -⟩ := hw b hb
  iterate 4 refine go_s rfl rfl rfl trivial ?_
  refine go_s rfl rfl rfl ?_ ?_
  · exact vp_in_nI hb (by omega)
  iterate 1 refine go_s rfl rfl rfl trivial ?_
  refine go_if (fun hc => ?_) (fun hc => ?_)
  · iterate 1 refine go_s rfl rfl rfl trivial ?_
    exact go_r rfl rfl rfl (Or.inl rfl) ⟨rfl, rfl⟩
  · iterate 2 refine go_s rfl rfl rfl trivial ?_
    refine go_if (fun hc => ?_) (fun hc => ?_)
    · iterate 1 refine go_s rfl rfl rfl trivial ?_
      exact go_r rfl rfl rfl (Or.inl rfl) ⟨rfl, rfl⟩
    · exact absurd rfl hc
theorem c_ends (hw : wm B μ) {a b : Nat} (ha : a < 6034) (hb : b < 6034) : Do m_Mo_ends [.ref 48, .int (nI a), .int (nI b)] (hM T I B S D) (fun r h' => r = some (.int (b01 (endP (μ a) (μ b)))) ∧ h' = hM T I B S D) := by
  obtain ⟨a12, aL, -, -⟩ := hw a ha
  obtain ⟨b12, bL, -, -⟩ := hw b hb
  have ca : (nI a).toNatClampNeg = a := nI_clamp (by omega)
  have cb : (nI b).toNatClampNeg = b := nI_clamp (by omega)
  iterate 3 refine go_s rfl rfl rfl trivial ?_
  refine go_s rfl rfl rfl ?_ ?_
  · exact vp_in_nI ha (by omega)
  iterate 3 refine go_s rfl rfl rfl trivial ?_
  refine go_s rfl rfl rfl ?_ ?_
  · exact vp_in_nI hb (by omega)
  simp only [ca, cb, aL, bL]
  iterate 5 refine go_s rfl rfl rfl trivial ?_
  have e3 : (3 : Int32) = nI 3 := rfl
  rcases Nat.lt_or_ge (μ a).length (μ b).length with hl | hl
  · have hneg : nI (μ a).length - nI (μ b).length < 3 := by
      have h0 := pk_sneg (a := (μ a).length) (b := (μ b).length) (by omega) hl
      rw [Int32.lt_iff_toInt_lt] at h0 ⊢
      exact Int.lt_trans h0 (by decide)
    refine go_if (fun hc => ?_) (fun hc => ?_)
    · iterate 4 refine go_s rfl rfl rfl trivial ?_
      refine (l_ends0 hw hb _).mono fun r h' h => ?_
      rw [b01_f (fun q => by have := q.1; omega)]
      exact h
    · exact absurd hneg hc
  · obtain ⟨o, ho⟩ : ∃ o, (μ a).length = o + (μ b).length := ⟨(μ a).length - (μ b).length, by omega⟩
    have e1 : nI (μ a).length - nI (μ b).length = nI o := by rw [pk_sub hl, show (μ a).length - (μ b).length = o by omega]
    rw [e1]
    have hiff : nI o < 3 ↔ o < 3 := by rw [e3]; exact nI_ltI (by omega) (by omega)
    refine go_if (fun hc => ?_) (fun hc => ?_)
    · iterate 4 refine go_s rfl rfl rfl trivial ?_
      exact l_ends hw ha hb ho (μ b).length 0 0 (by omega) (Or.inr ⟨rfl, fun q => by have := q.1; have := hiff.mp hc; omega⟩)
    · iterate 5 refine go_s rfl rfl rfl trivial ?_
      exact l_ends hw ha hb ho (μ b).length 0 1 (by omega) (Or.inl ⟨rfl, by have : ¬ o < 3 := fun q => hc (hiff.mpr q); omega, fun j hj => by omega⟩)
end MSTEM
end
section
/-! ===== the reference: stop words, stems ===== -/
def stopQ (n : Nat) (B : Nat → Nat → Int32) (μ : Nat → List Nat) (x : Int32) (w : List Nat) : Prop := ∃ k, k < n ∧ B 8 k = x ∧ μ (1920 + k) = w
/-- the stem of a word by the first rule that fits -/
def stemF : List (List Nat × List Nat) → List Nat → List Nat
  | [], w => w
  | r :: rs, w => if r.1.length + 3 ≤ w.length ∧ w.drop (w.length - r.1.length) = r.1 then (w.take (w.length - r.1.length) ++ r.2).take 12 else stemF rs w
section MSTEM2
variable {T : Nat → am_C} {D : List am_C} {I : Nat → Int32} {B : Nat → Nat → Int32} {S : Nat → Int64} {μ : Nat → List Nat}
theorem l_isStop (hw : wm B μ) {a n : Nat} {x : Int32} (ha : a < 6034) (hn : I 3 = nI n) (hn2 : n ≤ 2000) : ∀ (d k : Nat), n = k + d → (∀ j, j < k → ¬ (B 8 j = x ∧ μ (1920 + j) = μ a)) →
    Go m_Mo_isStop 2 [some (.ref 48), some (.int x), some (.int (nI a)), some (.int (nI k))] [] (hM T I B S D) (fun r h' => r = some (.int (b01 (stopQ n B μ x (μ a)))) ∧ h' = hM T I B S D) := by
  intro d
  induction d with
  | zero =>
    intro k hk hf
    iterate 4 refine go_s rfl rfl rfl trivial ?_
    rw [hn]
    refine go_if (fun hc => ?_) (fun hc => ?_)
    · iterate 1 refine go_s rfl rfl rfl trivial ?_
      have e : b01 (stopQ n B μ x (μ a)) = 0 := b01_f fun ⟨j, h1, h2⟩ => hf j (by omega) h2
      rw [e]
      exact go_r rfl rfl rfl (Or.inl rfl) ⟨rfl, rfl⟩
    · exact absurd (nI_le (by omega) (by omega)) hc
  | succ d ih =>
    intro k hk hf
    have ck : (nI k).toNatClampNeg = k := nI_clamp (by omega)
    have go_on : ¬ (B 8 k = x ∧ μ (1920 + k) = μ a) → Go m_Mo_isStop 35 [some (.ref 48), some (.int x), some (.int (nI a)), some (.int (nI k))] [] (hM T I B S D) (fun r h' => r = some (.int (b01 (stopQ n B μ x (μ a)))) ∧ h' = hM T I B S D) := by
      intro hno
      iterate 2 refine go_s rfl rfl rfl trivial ?_
      rw [nI_1]
      refine ih (k + 1) (by omega) fun j hj => ?_
      rcases Nat.lt_or_ge j k with hjk | hjk
      · exact hf j hjk
      · rw [show j = k by omega]; exact hno
    iterate 4 refine go_s rfl rfl rfl trivial ?_
    rw [hn]
    refine go_if (fun hc => ?_) (fun hc => ?_)
    · exact absurd hc (nI_ge (by omega) (by omega))
    · iterate 3 refine go_s rfl rfl rfl trivial ?_
      refine go_s rfl rfl rfl ?_ ?_
      · exact vp_in_nI (by omega) (by omega)
      simp only [ck]
      iterate 2 refine go_s rfl rfl rfl trivial ?_
      refine go_if (fun hcx => go_on fun q => hcx q.1) (fun hcx => ?_)
      · iterate 4 refine go_s rfl rfl rfl trivial ?_
        rw [show (1920 : Int32) + nI k = nI (1920 + k) by rw [show (1920 : Int32) = nI 1920 from rfl, nI_add]]
        iterate 1 refine go_s rfl rfl rfl trivial ?_
        refine go_c rfl rfl rfl (c_same hw (a := 1920 + k) (by omega) ha) ?_
        rintro r h3 ⟨rfl, rfl⟩
        iterate 1 refine go_s rfl rfl rfl trivial ?_
        refine go_if (fun hc => ?_) (fun hc => ?_)
        · exact go_on fun q => (b01_eq0.mp hc) q.2
        · iterate 1 refine go_s rfl rfl rfl trivial ?_
          have hq : μ (1920 + k) = μ a := Classical.not_not.mp fun q => hc (b01_f q)
          have e : b01 (stopQ n B μ x (μ a)) = 1 := b01_t ⟨k, by omega, Classical.not_not.mp hcx, hq⟩
          rw [e]
          exact go_r rfl rfl rfl (Or.inr rfl) ⟨rfl, rfl⟩
/-- the rules of a language from the r-th on -/
def rl (μ : Nat → List Nat) (l : Nat) : Nat → Nat → List (List Nat × List Nat)
  | _, 0 => []
  | r, d + 1 => (μ (3920 + 16 * l + 2 * r), μ (3920 + 16 * l + 2 * r + 1)) :: rl μ l (r + 1) d
theorem c_isStop (hw : wm B μ) {a n : Nat} {x : Int32} (ha : a < 6034) (hn : I 3 = nI n) (hn2 : n ≤ 2000) : Do m_Mo_isStop [.ref 48, .int x, .int (nI a)] (hM T I B S D) (fun r h' => r = some (.int (b01 (stopQ n B μ x (μ a)))) ∧ h' = hM T I B S D) := by
  iterate 2 refine go_s rfl rfl rfl trivial ?_
  exact l_isStop hw ha hn hn2 n 0 (by omega) (fun j hj => by omega)
theorem c_endingAt (h : List am_C) (l r : Nat) : Do m_Mo_endingAt [.int (nI l), .int (nI r)] h (fun v h' => v = some (.int (nI (3920 + 16 * l + 2 * r))) ∧ h' = h) := by
  iterate 9 refine go_s rfl rfl rfl trivial ?_
  refine go_r rfl rfl rfl trivial ⟨?_, rfl⟩
  rw [show (3920 : Int32) = nI 3920 from rfl, show (16 : Int32) = nI 16 from rfl, show (2 : Int32) = nI 2 from rfl, pk_mul, pk_mul, nI_add, nI_add]
theorem add_take {z rest : List Nat} {x : Nat} (hz : z.length ≤ 12) : ((if z.length = 12 then z else z ++ [x]) ++ rest).take 12 = (z ++ x :: rest).take 12 := by
  by_cases h : z.length = 12
  · rw [if_pos h, List.take_append_of_le_length (by omega), List.take_append_of_le_length (by omega)]
  · rw [if_neg h, List.append_assoc]
    rfl
theorem l_st110 {l a to en : Nat} {r : Int32} (ht : to < 6034) (he : en + 1 < 6034) (hne : en + 1 ≠ to) : ∀ (d k : Nat) (B : Nat → Nat → Int32) (μ : Nat → List Nat), wm B μ → (μ (en + 1)).length = k + d →
    Go m_Mo_stemTo 110 [some (.ref 48), some (.int (nI l)), some (.int (nI a)), some (.int (nI to)), some (.int r), some (.int (nI en)), some (.int (nI k))] [] (hM T I B S D) (fun r h' => r = none ∧ ∃ B', h' = hM T I B' S D ∧ wsame B B' ∧ wm B' (va_up μ to ((μ to ++ (μ (en + 1)).drop k).take 12))) := by
  have ce : (nI (en + 1)).toNatClampNeg = en + 1 := nI_clamp (by omega)
  intro d
  induction d with
  | zero =>
    intro k B μ hw hk
    obtain ⟨e12, eL, -, -⟩ := hw (en + 1) he
    iterate 6 refine go_s rfl rfl rfl trivial ?_
    rw [nI_1]
    refine go_s rfl rfl rfl ?_ ?_
    · exact vp_in_nI he (by omega)
    iterate 1 refine go_s rfl rfl rfl trivial ?_
    simp only [ce, eL]
    refine go_if (fun hc => ?_) (fun hc => ?_)
    · refine go_r rfl rfl rfl trivial ⟨rfl, B, rfl, wsame.rf B, ?_⟩
      rw [List.drop_eq_nil_of_le (by omega), List.append_nil, List.take_of_length_le (hw to ht).1]
      have : va_up μ to (μ to) = μ := by
        funext j
        by_cases hj : j = to
        · subst hj; rw [va_up_self]
        · rw [va_up_ne _ _ hj]
      rw [this]
      exact hw
    · exact absurd (nI_le (by omega) (by omega)) hc
  | succ d ih =>
    intro k B μ hw hk
    obtain ⟨e12, eL, -, -⟩ := hw (en + 1) he
    iterate 6 refine go_s rfl rfl rfl trivial ?_
    rw [nI_1]
    refine go_s rfl rfl rfl ?_ ?_
    · exact vp_in_nI he (by omega)
    iterate 1 refine go_s rfl rfl rfl trivial ?_
    simp only [ce, eL]
    refine go_if (fun hc => ?_) (fun hc => ?_)
    · exact absurd hc (nI_ge (by omega) (by omega))
    · iterate 7 refine go_s rfl rfl rfl trivial ?_
      rw [nI_1]
      refine go_c rfl rfl rfl (c_byteOf_w hw he (k := k) (by omega)) ?_
      rintro rr h3 ⟨rfl, rfl⟩
      have la := hw.at_lt (k := k) he
      refine go_c rfl rfl rfl (c_add hw ht la) ?_
      rintro rr h3 ⟨rfl, B1, rfl, hs1, hw1⟩
      iterate 2 refine go_s rfl rfl rfl trivial ?_
      rw [nI_1]
      have e1 : ∀ w, va_up μ to w (en + 1) = μ (en + 1) := fun w => va_up_ne _ _ hne
      refine (ih (k + 1) B1 _ hw1 (by rw [e1]; omega)).mono fun rr h' h => ?_
      obtain ⟨h1, B2, h2, h3, h4⟩ := h
      refine ⟨h1, B2, h2, hs1.tr h3, ?_⟩
      rw [e1, va_up_self, bx_uu, add_take (hw to ht).1] at h4
      have e2 : (μ (en + 1)).getD k 0 :: (μ (en + 1)).drop (k + 1) = (μ (en + 1)).drop k := by
        rw [List.getD_eq_getElem?_getD, List.getElem?_eq_getElem (by omega : k < (μ (en + 1)).length)]
        exact (List.drop_eq_getElem_cons (by omega)).symm
      rw [e2] at h4
      exact h4
end MSTEM2
end
section
/-! ===== the reference: stems ===== -/
section MSTEM3
variable {T : Nat → am_C} {D : List am_C} {I : Nat → Int32} {S : Nat → Int64}
theorem up_id (μ : Nat → List Nat) (a : Nat) : va_up μ a (μ a) = μ := by
  funext j
  by_cases hj : j = a
  · subst hj; rw [va_up_self]
  · rw [va_up_ne _ _ hj]
theorem l_st70 {l a to en : Nat} {r : Int32} (ha : a < 6034) (ht : to < 6034) (hat : a ≠ to) (he : en + 1 < 6034) (hne : en + 1 ≠ to) (hne2 : en ≠ to) : ∀ (d k : Nat) (B : Nat → Nat → Int32) (μ : Nat → List Nat), wm B μ → (μ en).length ≤ (μ a).length → (μ a).length - (μ en).length = k + d → μ to = (μ a).take k →
    Go m_Mo_stemTo 70 [some (.ref 48), some (.int (nI l)), some (.int (nI a)), some (.int (nI to)), some (.int r), some (.int (nI en)), some (.int (nI k))] [] (hM T I B S D) (fun r h' => r = none ∧ ∃ B', h' = hM T I B' S D ∧ wsame B B' ∧ wm B' (va_up μ to (((μ a).take ((μ a).length - (μ en).length) ++ μ (en + 1)).take 12))) := by
  have ca : (nI a).toNatClampNeg = a := nI_clamp (by omega)
  have ce : (nI en).toNatClampNeg = en := nI_clamp (by omega)
  intro d
  induction d with
  | zero =>
    intro k B μ hw hle hk htk
    obtain ⟨a12, aL, -, -⟩ := hw a ha
    obtain ⟨e12, eL, -, -⟩ := hw en (by omega)
    iterate 4 refine go_s rfl rfl rfl trivial ?_
    refine go_s rfl rfl rfl ?_ ?_
    · exact vp_in_nI ha (by omega)
    iterate 3 refine go_s rfl rfl rfl trivial ?_
    refine go_s rfl rfl rfl ?_ ?_
    · exact vp_in_nI (by omega) (by omega)
    simp only [ca, ce, aL, eL]
    iterate 1 refine go_s rfl rfl rfl trivial ?_
    rw [pk_sub hle]
    iterate 1 refine go_s rfl rfl rfl trivial ?_
    refine go_if (fun hc => ?_) (fun hc => ?_)
    · iterate 2 refine go_s rfl rfl rfl trivial ?_
      refine (l_st110 ht he hne (μ (en + 1)).length 0 B μ hw (by omega)).mono fun rr h' h => ?_
      obtain ⟨h1, B2, h2, h3, h4⟩ := h
      refine ⟨h1, B2, h2, h3, ?_⟩
      rw [htk, List.drop_zero] at h4
      rw [show (μ a).length - (μ en).length = k by omega]
      exact h4
    · exact absurd (nI_le (by omega) (by omega)) hc
  | succ d ih =>
    intro k B μ hw hle hk htk
    obtain ⟨a12, aL, -, -⟩ := hw a ha
    obtain ⟨e12, eL, -, -⟩ := hw en (by omega)
    iterate 4 refine go_s rfl rfl rfl trivial ?_
    refine go_s rfl rfl rfl ?_ ?_
    · exact vp_in_nI ha (by omega)
    iterate 3 refine go_s rfl rfl rfl trivial ?_
    refine go_s rfl rfl rfl ?_ ?_
    · exact vp_in_nI (by omega) (by omega)
    simp only [ca, ce, aL, eL]
    iterate 1 refine go_s rfl rfl rfl trivial ?_
    rw [pk_sub hle]
    iterate 1 refine go_s rfl rfl rfl trivial ?_
    refine go_if (fun hc => ?_) (fun hc => ?_)
    · exact absurd hc (nI_ge (by omega) (by omega))
    · iterate 5 refine go_s rfl rfl rfl trivial ?_
      refine go_c rfl rfl rfl (c_byteOf_w hw ha (k := k) (by omega)) ?_
      rintro rr h3 ⟨rfl, rfl⟩
      have la := hw.at_lt (k := k) ha
      refine go_c rfl rfl rfl (c_add hw ht la) ?_
      rintro rr h3 ⟨rfl, B1, rfl, hs1, hw1⟩
      iterate 2 refine go_s rfl rfl rfl trivial ?_
      rw [nI_1]
      have hl : (μ to).length = k := by rw [htk, List.length_take]; omega
      rw [if_neg (by omega)] at hw1
      have e1 : ∀ w, va_up μ to w a = μ a := fun w => va_up_ne _ _ hat
      have e2 : ∀ w, va_up μ to w en = μ en := fun w => va_up_ne _ _ hne2
      have e3 : ∀ w, va_up μ to w (en + 1) = μ (en + 1) := fun w => va_up_ne _ _ hne
      refine (ih (k + 1) B1 _ hw1 (by rw [e1, e2]; exact hle) (by rw [e1, e2]; omega) ?_).mono fun rr h' h => ?_
      · rw [e1, va_up_self, htk, List.getD_eq_getElem?_getD, List.take_succ, List.getElem?_eq_getElem (by omega : k < (μ a).length)]
        rfl
      · obtain ⟨h1, B2, h2, h3, h4⟩ := h
        refine ⟨h1, B2, h2, hs1.tr h3, ?_⟩
        rw [e1, e2, e3, bx_uu] at h4
        exact h4
theorem l_st3 {l a to : Nat} (hl : l < 3) (ha : a < 6034) (ht : to < 6034) (hat : a ≠ to) (hto : to < 3920 ∨ 3968 ≤ to) : ∀ (d r : Nat) (X5 X6 : Option Value) (B : Nat → Nat → Int32) (μ : Nat → List Nat), wm B μ → B 9 l = nI (r + d) → r + d ≤ 8 →
    Go m_Mo_stemTo 3 [some (.ref 48), some (.int (nI l)), some (.int (nI a)), some (.int (nI to)), some (.int (nI r)), X5, X6] [] (hM T I B S D) (fun r' h' => r' = none ∧ ∃ B', h' = hM T I B' S D ∧ wsame B B' ∧ wm B' (va_up μ to (stemF (rl μ l r d) (μ a)))) := by
  have cl : (nI l).toNatClampNeg = l := nI_clamp (by omega)
  have ct : (nI to).toNatClampNeg = to := nI_clamp (by omega)
  have ca : (nI a).toNatClampNeg = a := nI_clamp (by omega)
  intro d
  induction d with
  | zero =>
    intro r X5 X6 B μ hw hr hr8
    iterate 4 refine go_s rfl rfl rfl trivial ?_
    refine go_s rfl rfl rfl ?_ ?_
    · exact vp_in_nI (by omega) (by omega)
    simp only [cl, hr]
    iterate 1 refine go_s rfl rfl rfl trivial ?_
    refine go_if (fun hc => ?_) (fun hc => ?_)
    · iterate 4 refine go_s rfl rfl rfl trivial ?_
      refine go_s rfl rfl rfl ?_ ?_
      · exact vp_in_nI (by omega) (by omega)
      simp only [cl, hr]
      iterate 1 refine go_s rfl rfl rfl trivial ?_
      rw [Nat.add_zero]
      refine go_if (fun hc => ?_) (fun hc => ?_)
      · exact absurd rfl hc
      · iterate 3 refine go_s rfl rfl rfl trivial ?_
        refine go_c rfl rfl rfl (c_copy hw ha ht hat) ?_
        rintro rr h3 ⟨rfl, B1, rfl, hs1, hw1⟩
        exact go_r rfl rfl rfl trivial ⟨rfl, B1, rfl, hs1, hw1⟩
    · exact absurd (nI_le (by omega) (by omega)) hc
  | succ d ih =>
    intro r X5 X6 B μ hw hr hr8
    obtain ⟨a12, aL, -, -⟩ := hw a ha
    iterate 4 refine go_s rfl rfl rfl trivial ?_
    refine go_s rfl rfl rfl ?_ ?_
    · exact vp_in_nI (by omega) (by omega)
    simp only [cl, hr]
    iterate 1 refine go_s rfl rfl rfl trivial ?_
    refine go_if (fun hc => ?_) (fun hc => ?_)
    · exact absurd hc (nI_ge (by omega) (by omega))
    · iterate 4 refine go_s rfl rfl rfl trivial ?_
      refine go_c rfl rfl rfl (c_endingAt _ l r) ?_
      rintro rr h3 ⟨rfl, rfl⟩
      refine go_c rfl rfl rfl (c_ends hw ha (b := 3920 + 16 * l + 2 * r) (by omega)) ?_
      rintro rr h3 ⟨rfl, rfl⟩
      iterate 1 refine go_s rfl rfl rfl trivial ?_
      refine go_if (fun hc => ?_) (fun hc => ?_)
      · have hend : endP (μ a) (μ (3920 + 16 * l + 2 * r)) := Classical.not_not.mp fun q => hc (b01_f q)
        iterate 4 refine go_s rfl rfl rfl trivial ?_
        refine go_s rfl rfl rfl ?_ ?_
        · exact vp_in_nI (by omega) (by omega)
        simp only [cl, hr]
        iterate 1 refine go_s rfl rfl rfl trivial ?_
        refine go_if (fun hc => ?_) (fun hc => ?_)
        · iterate 2 refine go_s rfl rfl rfl trivial ?_
          refine go_c rfl rfl rfl (c_endingAt _ l r) ?_
          rintro rr h3 ⟨rfl, rfl⟩
          iterate 5 refine go_s rfl rfl rfl trivial ?_
          refine go_s rfl rfl rfl ?_ ?_
          · exact vp_in_nI ht (by omega)
          simp only [ct]
          iterate 2 refine go_s rfl rfl rfl trivial ?_
          have hw0 : wm (va_up B 1 (upd (B 1) to 0)) (va_up μ to []) := wm_len0 hw ht rfl rfl
          have e1 : ∀ j, j ≠ to → va_up μ to [] j = μ j := fun j hj => va_up_ne _ _ hj
          have hn1 : 3920 + 16 * l + 2 * r ≠ to := by omega
          have hn2 : 3920 + 16 * l + 2 * r + 1 ≠ to := by omega
          have hend2 := hend.1
          refine Go.mono (l_st70 (T := T) (D := D) (I := I) (S := S) (l := l) (r := nI r) ha ht hat (en := 3920 + 16 * l + 2 * r) (by omega) hn2 hn1 ((μ a).length - (μ (3920 + 16 * l + 2 * r)).length) 0 (va_up B 1 (upd (B 1) to 0)) (va_up μ to []) hw0 (by rw [e1 a hat, e1 _ hn1]; omega) (by rw [e1 a hat, e1 _ hn1]; omega) (by rw [va_up_self]; rfl)) fun rr h' h => ?_
          obtain ⟨h1, B2, h2, h3, h4⟩ := h
          refine ⟨h1, B2, h2, fun i hi => by rw [h3 i hi, va_up_ne _ _ (by omega)], ?_⟩
          rw [e1 a hat, e1 _ hn1, e1 _ hn2, bx_uu] at h4
          have e5 : stemF (rl μ l r (d + 1)) (μ a) = ((μ a).take ((μ a).length - (μ (3920 + 16 * l + 2 * r)).length) ++ μ (3920 + 16 * l + 2 * r + 1)).take 12 := by
            simp only [rl, stemF]
            exact if_pos hend
          rw [e5]
          exact h4
        · exact absurd (nI_inj (by omega) (by omega) (Classical.not_not.mp hc)) (by omega)
      · have hend : ¬ endP (μ a) (μ (3920 + 16 * l + 2 * r)) := b01_eq0.mp (Classical.not_not.mp hc)
        iterate 2 refine go_s rfl rfl rfl trivial ?_
        rw [nI_1]
        refine (ih (r + 1) _ _ B μ hw (by rw [hr]; congr 1; omega) (by omega)).mono fun rr h' h => ?_
        have e5 : stemF (rl μ l r (d + 1)) (μ a) = stemF (rl μ l (r + 1) d) (μ a) := by
          simp only [rl, stemF]
          exact if_neg hend
        rw [e5]
        exact h
/-- the stem of a word comes to another place -/
theorem c_stemTo {B : Nat → Nat → Int32} {μ : Nat → List Nat} {l a to n : Nat} (hw : wm B μ) (hl : l < 3) (ha : a < 6034) (ht : to < 6034) (hat : a ≠ to) (hto : to < 3920 ∨ 3968 ≤ to) (hn : B 9 l = nI n) (hn8 : n ≤ 8) :
    Do m_Mo_stemTo [.ref 48, .int (nI l), .int (nI a), .int (nI to)] (hM T I B S D) (fun r' h' => r' = none ∧ ∃ B', h' = hM T I B' S D ∧ wsame B B' ∧ wm B' (va_up μ to (stemF (rl μ l 0 n) (μ a)))) := by
  iterate 2 refine go_s rfl rfl rfl trivial ?_
  exact l_st3 hl ha ht hat hto n 0 _ _ B μ hw (by rw [hn]; congr 1; omega) (by omega)
end MSTEM3
end
section
/-! ===== the reference: which stems texts have ===== -/
/-- E l w: the stem that a word has in texts of a language; none for a stop word -/
def menv (I : Nat → Int32) (B : Nat → Nat → Int32) (μ : Nat → List Nat) (E : Nat → List Nat → Option (List Nat)) : Prop := ∃ (ns : Nat) (nr : Nat → Nat), I 3 = nI ns ∧ ns ≤ 2000 ∧ (∀ l, l < 3 → B 9 l = nI (nr l) ∧ nr l ≤ 8) ∧ ∀ l, l < 3 → ∀ w, (stopQ ns B μ (nI l) w → E l w = none) ∧ (¬ stopQ ns B μ (nI l) w → E l w = some (stemF (rl μ l 0 (nr l)) w))
theorem rl_keep {μ μ' : Nat → List Nat} {l : Nat} (hl : l < 3) (h : ∀ a, 3920 ≤ a → a < 3968 → μ' a = μ a) : ∀ (d r : Nat), r + d ≤ 8 → rl μ' l r d = rl μ l r d
  | 0, _, _ => rfl
  | d + 1, r, hr => by
    simp only [rl]
    rw [h _ (by omega) (by omega), h _ (by omega) (by omega), rl_keep hl h d (r + 1) (by omega)]
theorem menv.keep {I I' : Nat → Int32} {B B' : Nat → Nat → Int32} {μ μ' : Nat → List Nat} {E : Nat → List Nat → Option (List Nat)} (h : menv I B μ E) (hI : I' 3 = I 3) (hB8 : B' 8 = B 8) (hB9 : B' 9 = B 9) (hm : ∀ a, 1920 ≤ a → a < 3968 → μ' a = μ a) : menv I' B' μ' E := by
  obtain ⟨ns, nr, h1, h2, h3, h4⟩ := h
  refine ⟨ns, nr, hI.trans h1, h2, fun l hl => by rw [hB9]; exact h3 l hl, fun l hl w => ?_⟩
  have e : stopQ ns B' μ' (nI l) w ↔ stopQ ns B μ (nI l) w := by
    constructor
    · rintro ⟨k, k1, k2, k3⟩
      exact ⟨k, k1, by rw [← hB8]; exact k2, by rw [← hm (1920 + k) (by omega) (by omega)]; exact k3⟩
    · rintro ⟨k, k1, k2, k3⟩
      exact ⟨k, k1, by rw [hB8]; exact k2, by rw [hm (1920 + k) (by omega) (by omega)]; exact k3⟩
  rw [e, rl_keep hl (fun a h1 h2 => hm a (by omega) h2) (nr l) 0 (by have := (h3 l hl).2; omega)]
  exact h4 l hl w
theorem menv.keepw {I : Nat → Int32} {B B' : Nat → Nat → Int32} {μ : Nat → List Nat} {E : Nat → List Nat → Option (List Nat)} {a : Nat} {w : List Nat} (h : menv I B μ E) (hs : wsame B B') (ha : 3968 ≤ a) : menv I B' (va_up μ a w) E :=
  h.keep rfl (hs 8 (by omega)) (hs 9 (by omega)) (fun c _ h2 => va_up_ne _ _ (by omega))
/-- whether a word's stem is v (begins with v) -/
def hasQ (f : Int32) (o : Option (List Nat)) (v : List Nat) : Prop := ∃ u, o = some u ∧ ((f = 0 ∧ u = v) ∨ (f = 1 ∧ begP u v))
/-- how many of the first n numbers are such -/
noncomputable def cnt (P : Nat → Prop) : Nat → Nat
  | 0 => 0
  | n + 1 => cnt P n + @ite _ (P n) (Classical.propDecidable _) 1 0
theorem cnt_le (P : Nat → Prop) : ∀ n, cnt P n ≤ n
  | 0 => Nat.le_refl _
  | n + 1 => by
    have := cnt_le P n
    simp only [cnt]
    split <;> omega
theorem cnt_t {P : Nat → Prop} {n : Nat} (h : P n) : cnt P (n + 1) = cnt P n + 1 := by
  simp only [cnt]
  rw [if_pos h]
theorem cnt_f {P : Nat → Prop} {n : Nat} (h : ¬ P n) : cnt P (n + 1) = cnt P n := by
  simp only [cnt]
  rw [if_neg h]
  rfl
section MHAS
variable {T : Nat → am_C} {D : List am_C} {I : Nat → Int32} {S : Nat → Int64} {E : Nat → List Nat → Option (List Nat)}
theorem c_isStop_E {B : Nat → Nat → Int32} {μ : Nat → List Nat} (hw : wm B μ) (hE : menv I B μ E) {a l : Nat} (ha : a < 6034) (hl : l < 3) : Do m_Mo_isStop [.ref 48, .int (nI l), .int (nI a)] (hM T I B S D) (fun r h' => r = some (.int (b01 (E l (μ a) = none))) ∧ h' = hM T I B S D) := by
  obtain ⟨ns, nr, h1, h2, h3, h4⟩ := hE
  refine (c_isStop hw ha h1 h2).mono fun r h' h => ?_
  have e : E l (μ a) = none ↔ stopQ ns B μ (nI l) (μ a) := by
    constructor
    · intro q
      refine Classical.not_not.mp fun q2 => ?_
      rw [(h4 l hl (μ a)).2 q2] at q
      cases q
    · exact (h4 l hl (μ a)).1
  rw [b01_iff e]
  exact h
theorem c_stemTo_E {B : Nat → Nat → Int32} {μ : Nat → List Nat} (hw : wm B μ) (hE : menv I B μ E) {l a to : Nat} {u : List Nat} (hl : l < 3) (ha : a < 6034) (ht : to < 6034) (hat : a ≠ to) (hto : 3968 ≤ to) (hu : E l (μ a) = some u) :
    Do m_Mo_stemTo [.ref 48, .int (nI l), .int (nI a), .int (nI to)] (hM T I B S D) (fun r' h' => r' = none ∧ ∃ B', h' = hM T I B' S D ∧ wsame B B' ∧ wm B' (va_up μ to u)) := by
  obtain ⟨ns, nr, h1, h2, h3, h4⟩ := hE
  refine (c_stemTo hw hl ha ht hat (Or.inr hto) (h3 l hl).1 (h3 l hl).2).mono fun r h' h => ?_
  have e : stemF (rl μ l 0 (nr l)) (μ a) = u := by
    by_cases q : stopQ ns B μ (nI l) (μ a)
    · rw [(h4 l hl (μ a)).1 q] at hu; cases hu
    · rw [(h4 l hl (μ a)).2 q] at hu; exact Option.some.inj hu
  rw [e] at h
  exact h
theorem c_hasAt {B : Nat → Nat → Int32} {μ : Nat → List Nat} (hw : wm B μ) (hE : menv I B μ E) {t l p a : Nat} {f : Int32} (ht : t < 40) (hp : p < 48) (hl : l < 3) (htl : B 3 t = nI l) (ha : a < 6034) (ha2 : a ≠ 6032) (hf : f = 0 ∨ f = 1) :
    Do m_Mo_hasAt [.ref 48, .int (nI t), .int (nI p), .int (nI a), .int f] (hM T I B S D) (fun r h' => r = some (.int (b01 (hasQ f (E l (μ (48 * t + p))) (μ a)))) ∧ ∃ B' w, h' = hM T I B' S D ∧ wsame B B' ∧ wm B' (va_up μ 6032 w)) := by
  have ct : (nI t).toNatClampNeg = t := nI_clamp (by omega)
  have e48 : (48 : Int32) * nI t + nI p = nI (48 * t + p) := by
    rw [show (48 : Int32) = nI 48 from rfl, pk_mul, nI_add]
  iterate 5 refine go_s rfl rfl rfl trivial ?_
  rw [e48]
  iterate 5 refine go_s rfl rfl rfl trivial ?_
  refine go_s rfl rfl rfl ?_ ?_
  · exact vp_in_nI ht (by omega)
  simp only [ct, htl]
  iterate 1 refine go_s rfl rfl rfl trivial ?_
  refine go_c rfl rfl rfl (c_isStop_E hw hE (a := 48 * t + p) (by omega) hl) ?_
  rintro r h3 ⟨rfl, rfl⟩
  iterate 1 refine go_s rfl rfl rfl trivial ?_
  refine go_if (fun hc => ?_) (fun hc => ?_)
  · have hn : ¬ E l (μ (48 * t + p)) = none := b01_eq0.mp hc
    obtain ⟨u, hu⟩ : ∃ u, E l (μ (48 * t + p)) = some u := by
      cases q : E l (μ (48 * t + p)) with
      | none => exact absurd q hn
      | some u => exact ⟨u, rfl⟩
    iterate 4 refine go_s rfl rfl rfl trivial ?_
    refine go_s rfl rfl rfl ?_ ?_
    · exact vp_in_nI ht (by omega)
    simp only [ct, htl]
    iterate 2 refine go_s rfl rfl rfl trivial ?_
    refine go_c rfl rfl rfl (c_stemTo_E hw hE hl (a := 48 * t + p) (to := 6032) (by omega) (by omega) (by omega) (by omega) hu) ?_
    rintro r h3 ⟨rfl, B1, rfl, hs1, hw1⟩
    have e1 : va_up μ 6032 u a = μ a := va_up_ne _ _ ha2
    have e2 : va_up μ 6032 u 6032 = u := va_up_self _ _ _
    iterate 2 refine go_s rfl rfl rfl trivial ?_
    rcases hf with rfl | rfl
    · refine go_if (fun hc => ?_) (fun hc => ?_)
      · iterate 3 refine go_s rfl rfl rfl trivial ?_
        refine go_c rfl rfl rfl (c_same hw1 (a := 6032) (b := a) (by omega) ha) ?_
        rintro r h3 ⟨rfl, rfl⟩
        refine go_r rfl rfl rfl (b01_g _) ⟨?_, B1, u, rfl, hs1, hw1⟩
        rw [e1, e2, hu]
        refine congrArg (fun z => some (Value.int z)) (b01_iff ⟨fun q => ⟨u, rfl, Or.inl ⟨rfl, q⟩⟩, fun ⟨u', q1, q2⟩ => ?_⟩)
        cases q1
        rcases q2 with ⟨-, q⟩ | ⟨q, -⟩
        · exact q
        · exact absurd q (by decide)
      · exact absurd rfl hc
    · refine go_if (fun hc => ?_) (fun hc => ?_)
      · exact absurd hc (by decide)
      · iterate 3 refine go_s rfl rfl rfl trivial ?_
        refine go_c rfl rfl rfl (c_beginsSo hw1 (a := 6032) (b := a) (by omega) ha) ?_
        rintro r h3 ⟨rfl, rfl⟩
        iterate 1 refine go_s rfl rfl rfl trivial ?_
        refine go_r rfl rfl rfl (b01_g _) ⟨?_, B1, u, rfl, hs1, hw1⟩
        rw [e1, e2, hu]
        refine congrArg (fun z => some (Value.int z)) (b01_iff ⟨fun q => ⟨u, rfl, Or.inr ⟨rfl, q⟩⟩, fun ⟨u', q1, q2⟩ => ?_⟩)
        cases q1
        rcases q2 with ⟨q, -⟩ | ⟨-, q⟩
        · exact absurd q (by decide)
        · exact q
  · have hn : E l (μ (48 * t + p)) = none := Classical.not_not.mp fun q => hc (b01_f q)
    iterate 1 refine go_s rfl rfl rfl trivial ?_
    refine go_r rfl rfl rfl (Or.inl rfl) ⟨?_, B, μ 6032, rfl, wsame.rf B, by rw [up_id]; exact hw⟩
    rw [b01_f]
    rintro ⟨u, q1, -⟩
    rw [hn] at q1
    cases q1
theorem l_times {t l a c : Nat} {f : Int32} (ht : t < 40) (hl : l < 3) (ha : a < 6034) (ha2 : a ≠ 6032) (hf : f = 0 ∨ f = 1) (hc48 : c ≤ 48) {v : List Nat} {wd : Nat → List Nat} : ∀ (d p : Nat) (B : Nat → Nat → Int32) (μ : Nat → List Nat), wm B μ → menv I B μ E → B 3 t = nI l → B 5 t = nI c → μ a = v → (∀ j, j < c → μ (48 * t + j) = wd j) → c = p + d →
    Go m_Mo_times 6 [some (.ref 48), some (.int (nI t)), some (.int (nI a)), some (.int f), some (.int (nI (cnt (fun j => hasQ f (E l (wd j)) v) p))), some (.int (nI p))] [] (hM T I B S D) (fun r h' => r = some (.int (nI (cnt (fun j => hasQ f (E l (wd j)) v) c))) ∧ ∃ B' w, h' = hM T I B' S D ∧ wsame B B' ∧ wm B' (va_up μ 6032 w)) := by
  have ct : (nI t).toNatClampNeg = t := nI_clamp (by omega)
  intro d
  induction d with
  | zero =>
    intro p B μ hw hE htl hct hv hwd hk
    have hcl := cnt_le (fun j => hasQ f (E l (wd j)) v) p
    iterate 4 refine go_s rfl rfl rfl trivial ?_
    refine go_s rfl rfl rfl ?_ ?_
    · exact vp_in_nI ht (by omega)
    simp only [ct, hct]
    iterate 1 refine go_s rfl rfl rfl trivial ?_
    refine go_if (fun hc => ?_) (fun hc => ?_)
    · iterate 1 refine go_s rfl rfl rfl trivial ?_
      refine go_r rfl rfl rfl trivial ⟨by rw [hk]; rfl, B, μ 6032, rfl, wsame.rf B, by rw [up_id]; exact hw⟩
    · exact absurd (nI_le (by omega) (by omega)) hc
  | succ d ih =>
    intro p B μ hw hE htl hct hv hwd hk
    have hcl := cnt_le (fun j => hasQ f (E l (wd j)) v) p
    iterate 4 refine go_s rfl rfl rfl trivial ?_
    refine go_s rfl rfl rfl ?_ ?_
    · exact vp_in_nI ht (by omega)
    simp only [ct, hct]
    iterate 1 refine go_s rfl rfl rfl trivial ?_
    refine go_if (fun hc => ?_) (fun hc => ?_)
    · exact absurd hc (nI_ge (by omega) (by omega))
    · iterate 6 refine go_s rfl rfl rfl trivial ?_
      refine go_c rfl rfl rfl (c_hasAt hw hE ht (p := p) (by omega) hl htl ha ha2 hf) ?_
      rintro r h3 ⟨rfl, B1, w, rfl, hs1, hw1⟩
      rw [hwd p (by omega), hv]
      have hE1 : menv I B1 (va_up μ 6032 w) E := hE.keepw hs1 (by omega)
      have nx : ∀ (q : Int32), q = nI (cnt (fun j => hasQ f (E l (wd j)) v) (p + 1)) → Go m_Mo_times 6 [some (.ref 48), some (.int (nI t)), some (.int (nI a)), some (.int f), some (.int q), some (.int (nI (p + 1)))] [] (hM T I B1 S D) (fun r h' => r = some (.int (nI (cnt (fun j => hasQ f (E l (wd j)) v) c))) ∧ ∃ B' w, h' = hM T I B' S D ∧ wsame B B' ∧ wm B' (va_up μ 6032 w)) := by
        rintro q rfl
        refine (ih (p + 1) B1 _ hw1 hE1 ((congrFun (hs1 3 (by omega)) t).trans htl) ((congrFun (hs1 5 (by omega)) t).trans hct) ((va_up_ne _ _ ha2).trans hv) (fun j hj => (va_up_ne _ _ (by omega)).trans (hwd j hj)) (by omega)).mono fun rr h' h => ?_
        obtain ⟨g1, B2, w2, g2, g3, g4⟩ := h
        refine ⟨g1, B2, w2, g2, hs1.tr g3, ?_⟩
        rw [bx_uu] at g4
        exact g4
      iterate 1 refine go_s rfl rfl rfl trivial ?_
      refine go_if (fun hc => ?_) (fun hc => ?_)
      · have hn := b01_eq0.mp hc
        iterate 5 refine go_s rfl rfl rfl trivial ?_
        rw [nI_1]
        exact nx _ (by rw [cnt_f hn]; exact nI_add _ 0)
      · have hn : hasQ f (E l (wd p)) v := Classical.not_not.mp fun q => hc (b01_f q)
        iterate 6 refine go_s rfl rfl rfl trivial ?_
        rw [nI_1, nI_1]
        exact nx _ (by rw [cnt_t hn])
/-- how often a text has a stem -/
theorem c_times {B : Nat → Nat → Int32} {μ : Nat → List Nat} (hw : wm B μ) (hE : menv I B μ E) {t l a c : Nat} {f : Int32} (ht : t < 40) (hl : l < 3) (htl : B 3 t = nI l) (hct : B 5 t = nI c) (hc48 : c ≤ 48) (ha : a < 6034) (ha2 : a ≠ 6032) (hf : f = 0 ∨ f = 1) :
    Do m_Mo_times [.ref 48, .int (nI t), .int (nI a), .int f] (hM T I B S D) (fun r h' => r = some (.int (nI (cnt (fun j => hasQ f (E l (μ (48 * t + j))) (μ a)) c))) ∧ ∃ B' w, h' = hM T I B' S D ∧ wsame B B' ∧ wm B' (va_up μ 6032 w)) := by
  iterate 4 refine go_s rfl rfl rfl trivial ?_
  exact l_times ht hl ha ha2 hf hc48 (wd := fun j => μ (48 * t + j)) c 0 B μ hw hE htl hct rfl (fun _ _ => rfl) (by omega)
end MHAS
end
section
/-! ===== the reference: texts; which stems come first; how many there are ===== -/
/-- nt texts: the language of each (none: it is gone), field, number of words, words -/
def lgI (o : Option Nat) : Int32 := match o with
  | some l => nI l
  | none => -1
def mtx (I : Nat → Int32) (B : Nat → Nat → Int32) (μ : Nat → List Nat) (nt : Nat) (lg : Nat → Option Nat) (fd cn : Nat → Nat) (wd : Nat → Nat → List Nat) : Prop := I 1 = nI nt ∧ nt ≤ 40 ∧ ∀ t, t < nt → B 3 t = lgI (lg t) ∧ (∀ l, lg t = some l → l < 3) ∧ B 4 t = nI (fd t) ∧ fd t < 4 ∧ B 5 t = nI (cn t) ∧ cn t ≤ 48 ∧ ∀ p, p < cn t → μ (48 * t + p) = wd t p
theorem mtx.keepw {I : Nat → Int32} {B B' : Nat → Nat → Int32} {μ : Nat → List Nat} {nt : Nat} {lg : Nat → Option Nat} {fd cn : Nat → Nat} {wd : Nat → Nat → List Nat} {a : Nat} {w : List Nat} (h : mtx I B μ nt lg fd cn wd) (hs : wsame B B') (ha : 1920 ≤ a) : mtx I B' (va_up μ a w) nt lg fd cn wd := by
  obtain ⟨h1, h2, h3⟩ := h
  refine ⟨h1, h2, fun t ht => ?_⟩
  obtain ⟨k1, k2, k3, k4, k5, k6, k7⟩ := h3 t ht
  refine ⟨by rw [hs 3 (by omega)]; exact k1, k2, by rw [hs 4 (by omega)]; exact k3, k4, by rw [hs 5 (by omega)]; exact k5, k6, fun p hp => ?_⟩
  rw [va_up_ne _ _ (by omega)]
  exact k7 p hp
theorem lgI_eq {o : Option Nat} {l : Nat} (hl : l < 3) (ho : ∀ k, o = some k → k < 3) : lgI o = nI l ↔ o = some l := by
  cases o with
  | none =>
    simp only [lgI]
    constructor
    · intro h
      have h2 : (-1 : Int32) < 0 := by decide
      rw [h] at h2
      exact absurd h2 (nI_pos (by omega))
    · intro h; cases h
  | some k =>
    simp only [lgI]
    have := ho k rfl
    rw [nI_eq (by omega) (by omega)]
    simp
/-- some text up to t, at some place (of t: before p), has the stem v -/
def earQ (E : Nat → List Nat → Option (List Nat)) (lg : Nat → Option Nat) (cn : Nat → Nat) (wd : Nat → Nat → List Nat) (l t p : Nat) (v : List Nat) : Prop := ∃ t' p', t' ≤ t ∧ lg t' = some l ∧ p' < (if t' < t then cn t' else p) ∧ E l (wd t' p') = some v
def fstQ (E : Nat → List Nat → Option (List Nat)) (lg : Nat → Option Nat) (cn : Nat → Nat) (wd : Nat → Nat → List Nat) (l t p : Nat) : Prop := ∃ v, E l (wd t p) = some v ∧ ¬ earQ E lg cn wd l t p v
def sumN (f : Nat → Nat) : Nat → Nat
  | 0 => 0
  | n + 1 => sumN f n + f n
section MFIRST
variable {T : Nat → am_C} {D : List am_C} {I : Nat → Int32} {S : Nat → Int64} {E : Nat → List Nat → Option (List Nat)} {nt : Nat} {lg : Nat → Option Nat} {fd cn : Nat → Nat} {wd : Nat → Nat → List Nat} {Q : Option Value → List am_C → Prop}
/-- the inner loop: k the end of its places -/
theorem l_first2 {l t t0 p0 k : Nat} {v : List Nat} (hl : l < 3) (ht : t < nt) (ht0 : t ≤ t0) (ht40 : t0 < 40) (hlt : lg t = some l) (hk : k = if t < t0 then cn t else p0) (hk2 : k ≤ cn t) : ∀ (d p : Nat) (B : Nat → Nat → Int32) (μ : Nat → List Nat), wm B μ → menv I B μ E → mtx I B μ nt lg fd cn wd → μ 6033 = v → k = p + d →
    (∀ B' w, wsame B B' → wm B' (va_up μ 6032 w) → (∀ p', p' < k → ¬ E l (wd t p') = some v) → Go m_Mo_isFirst 71 [some (.ref 48), some (.int (nI l)), some (.int (nI t0)), some (.int (nI p0)), some (.int (nI t)), some (.int (nI k))] [] (hM T I B' S D) Q) →
    ((∃ p', p' < k ∧ E l (wd t p') = some v) → ∀ B' w, wsame B B' → wm B' (va_up μ 6032 w) → Q (some (.int 0)) (hM T I B' S D)) →
    (∀ p', p' < p → ¬ E l (wd t p') = some v) →
    Go m_Mo_isFirst 26 [some (.ref 48), some (.int (nI l)), some (.int (nI t0)), some (.int (nI p0)), some (.int (nI t)), some (.int (nI p))] [] (hM T I B S D) Q := by
  have ct : (nI t).toNatClampNeg = t := nI_clamp (by omega)
  intro d
  induction d with
  | zero =>
    intro p B μ hw hE hX hv hpk hexit hfound hno
    obtain ⟨x1, x2, x3⟩ := hX
    obtain ⟨k1, k2, k3, k4, k5, k6, k7⟩ := x3 t ht
    have hpk2 : p = k := by omega
    subst hpk2
    iterate 4 refine go_s rfl rfl rfl trivial ?_
    refine go_if (fun hc => ?_) (fun hc => ?_)
    · have hlt2 : ¬ t < t0 := fun q => nI_ge q (by omega) hc
      rw [if_neg hlt2] at hk
      iterate 2 refine go_s rfl rfl rfl trivial ?_
      rw [hk]
      refine go_if (fun hc => ?_) (fun hc => ?_)
      · have := hexit B (μ 6032) (wsame.rf B) (by rw [up_id]; exact hw) hno
        rw [hk] at this
        exact this
      · exact absurd (Int32.le_refl _) hc
    · have hlt2 : t < t0 := Classical.not_not.mp fun q => hc (nI_le (by omega) (by omega))
      rw [if_pos hlt2] at hk
      iterate 3 refine go_s rfl rfl rfl trivial ?_
      refine go_s rfl rfl rfl ?_ ?_
      · exact vp_in_nI (by omega) (by omega)
      simp only [ct, k5]
      iterate 2 refine go_s rfl rfl rfl trivial ?_
      rw [hk]
      refine go_if (fun hc => ?_) (fun hc => ?_)
      · have := hexit B (μ 6032) (wsame.rf B) (by rw [up_id]; exact hw) hno
        rw [hk] at this
        exact this
      · exact absurd (Int32.le_refl _) hc
  | succ d ih =>
    intro p B μ hw hE hX hv hpk hexit hfound hno
    obtain ⟨x1, x2, x3⟩ := id hX
    obtain ⟨k1, k2, k3, k4, k5, k6, k7⟩ := x3 t ht
    have tail : Go m_Mo_isFirst 48 [some (.ref 48), some (.int (nI l)), some (.int (nI t0)), some (.int (nI p0)), some (.int (nI t)), some (.int (nI p))] [] (hM T I B S D) Q := by
      iterate 5 refine go_s rfl rfl rfl trivial ?_
      refine go_c rfl rfl rfl (c_hasAt hw hE (t := t) (p := p) (a := 6033) (f := 0) (by omega) (by omega) hl (by rw [k1, hlt]; rfl) (by omega) (by omega) (Or.inl rfl)) ?_
      rintro r h3 ⟨rfl, B1, w, rfl, hs1, hw1⟩
      rw [hv, k7 p (by omega)]
      have e33 : va_up μ 6032 w 6033 = v := (va_up_ne _ _ (by omega)).trans hv
      iterate 1 refine go_s rfl rfl rfl trivial ?_
      refine go_if (fun hc => ?_) (fun hc => ?_)
      · have hn := b01_eq0.mp hc
        iterate 2 refine go_s rfl rfl rfl trivial ?_
        rw [nI_1]
        refine ih (p + 1) B1 _ hw1 (hE.keepw hs1 (by omega)) (hX.keepw hs1 (by omega)) e33 (by omega) (fun B2 w2 s2 hw2 hno2 => ?_) (fun hf B2 w2 s2 hw2 => ?_) (fun p' hp' => ?_)
        · rw [bx_uu] at hw2
          exact hexit B2 w2 (hs1.tr s2) hw2 hno2
        · rw [bx_uu] at hw2
          exact hfound hf B2 w2 (hs1.tr s2) hw2
        · rcases Nat.lt_or_ge p' p with h | h
          · exact hno p' h
          · rw [show p' = p by omega]
            exact fun q => hn ⟨v, q, Or.inl ⟨rfl, rfl⟩⟩
      · have hn : hasQ 0 (E l (wd t p)) v := Classical.not_not.mp fun q => hc (b01_f q)
        obtain ⟨u, hu, hu2⟩ := hn
        have hu3 : E l (wd t p) = some v := by
          rcases hu2 with ⟨-, q⟩ | ⟨q, -⟩
          · rw [hu, q]
          · exact absurd q (by decide)
        iterate 1 refine go_s rfl rfl rfl trivial ?_
        exact go_r rfl rfl rfl (Or.inl rfl) (hfound ⟨p, by omega, hu3⟩ B1 w hs1 hw1)
    iterate 4 refine go_s rfl rfl rfl trivial ?_
    refine go_if (fun hc => ?_) (fun hc => ?_)
    · have hlt2 : ¬ t < t0 := fun q => nI_ge q (by omega) hc
      rw [if_neg hlt2] at hk
      iterate 2 refine go_s rfl rfl rfl trivial ?_
      refine go_if (fun hc => ?_) (fun hc => ?_)
      · exact absurd hc (nI_ge (by omega) (by omega))
      · exact tail
    · have hlt2 : t < t0 := Classical.not_not.mp fun q => hc (nI_le (by omega) (by omega))
      rw [if_pos hlt2] at hk
      iterate 3 refine go_s rfl rfl rfl trivial ?_
      refine go_s rfl rfl rfl ?_ ?_
      · exact vp_in_nI (by omega) (by omega)
      simp only [ct, k5]
      iterate 2 refine go_s rfl rfl rfl trivial ?_
      refine go_if (fun hc => ?_) (fun hc => ?_)
      · exact absurd hc (nI_ge (by omega) (by omega))
      · exact tail
theorem l_first3 {l t0 p0 : Nat} {v : List Nat} (hl : l < 3) (ht0 : t0 < nt) (hp0 : p0 ≤ cn t0) : ∀ (d t : Nat) (X5 : Option Value) (B : Nat → Nat → Int32) (μ : Nat → List Nat), wm B μ → menv I B μ E → mtx I B μ nt lg fd cn wd → μ 6033 = v → t0 + 1 = t + d →
    (∀ t' p', t' < t → ¬ (lg t' = some l ∧ p' < (if t' < t0 then cn t' else p0) ∧ E l (wd t' p') = some v)) →
    Go m_Mo_isFirst 3 [some (.ref 48), some (.int (nI l)), some (.int (nI t0)), some (.int (nI p0)), some (.int (nI t)), X5] [] (hM T I B S D) (fun r h' => r = some (.int (b01 (¬ earQ E lg cn wd l t0 p0 v))) ∧ ∃ B' w, h' = hM T I B' S D ∧ wsame B B' ∧ wm B' (va_up μ 6032 w)) := by
  intro d
  induction d with
  | zero =>
    intro t X5 B μ hw hE hX hv htd hno
    obtain ⟨x1, x2, x3⟩ := id hX
    iterate 3 refine go_s rfl rfl rfl trivial ?_
    refine go_if (fun hc => ?_) (fun hc => ?_)
    · iterate 1 refine go_s rfl rfl rfl trivial ?_
      refine go_r rfl rfl rfl (Or.inr rfl) ⟨?_, B, μ 6032, rfl, wsame.rf B, by rw [up_id]; exact hw⟩
      rw [b01_t]
      rintro ⟨t', p', q1, q2, q3, q4⟩
      exact hno t' p' (by omega) ⟨q2, q3, q4⟩
    · exact absurd (nI_lt (by omega) (by omega)) hc
  | succ d ih =>
    intro t X5 B μ hw hE hX hv htd hno
    obtain ⟨x1, x2, x3⟩ := id hX
    obtain ⟨k1, k2, k3, k4, k5, k6, k7⟩ := x3 t (by omega)
    have ct : (nI t).toNatClampNeg = t := nI_clamp (by omega)
    have kle : ∀ t, t ≤ t0 → (if t < t0 then cn t else p0) ≤ cn t := by
      intro t h
      split
      · exact Nat.le_refl _
      · rw [show t = t0 by omega]; exact hp0
    iterate 3 refine go_s rfl rfl rfl trivial ?_
    refine go_if (fun hc => ?_) (fun hc => ?_)
    · exact absurd hc (nI_nlt (by omega) (by omega))
    · iterate 3 refine go_s rfl rfl rfl trivial ?_
      refine go_s rfl rfl rfl ?_ ?_
      · exact vp_in_nI (by omega) (by omega)
      simp only [ct, k1]
      iterate 2 refine go_s rfl rfl rfl trivial ?_
      have next : ∀ (B1 : Nat → Nat → Int32) (w : List Nat) (Y5 : Option Value), wsame B B1 → wm B1 (va_up μ 6032 w) → (∀ p', ¬ (lg t = some l ∧ p' < (if t < t0 then cn t else p0) ∧ E l (wd t p') = some v)) →
          Go m_Mo_isFirst 71 [some (.ref 48), some (.int (nI l)), some (.int (nI t0)), some (.int (nI p0)), some (.int (nI t)), Y5] [] (hM T I B1 S D) (fun r h' => r = some (.int (b01 (¬ earQ E lg cn wd l t0 p0 v))) ∧ ∃ B' w, h' = hM T I B' S D ∧ wsame B B' ∧ wm B' (va_up μ 6032 w)) := by
        intro B1 w Y5 hs1 hw1 hno1
        iterate 2 refine go_s rfl rfl rfl trivial ?_
        rw [nI_1]
        refine (ih (t + 1) _ B1 _ hw1 (hE.keepw hs1 (by omega)) (hX.keepw hs1 (by omega)) ((va_up_ne _ _ (by omega)).trans hv) (by omega) (fun t' p' ht' => ?_)).mono fun rr h' h => ?_
        · rcases Nat.lt_or_ge t' t with h | h
          · exact hno t' p' h
          · rw [show t' = t by omega]; exact hno1 p'
        · obtain ⟨g1, B2, w2, g2, g3, g4⟩ := h
          rw [bx_uu] at g4
          exact ⟨g1, B2, w2, g2, hs1.tr g3, g4⟩
      refine go_if (fun hc => ?_) (fun hc => ?_)
      · have hlt : lg t = some l := (lgI_eq hl k2).mp hc
        iterate 2 refine go_s rfl rfl rfl trivial ?_
        refine l_first2 (v := v) (k := if t < t0 then cn t else p0) hl (by omega) (by omega) (by omega) hlt rfl (kle t (by omega)) (if t < t0 then cn t else p0) 0 B μ hw hE hX hv (by omega) (fun B1 w hs1 hw1 hno2 => ?_) (fun hf B1 w hs1 hw1 => ?_) (fun p' hp' => by omega)
        · exact next B1 w _ hs1 hw1 (fun p' q => hno2 p' q.2.1 q.2.2)
        · obtain ⟨p', q1, q2⟩ := hf
          refine ⟨?_, B1, w, rfl, hs1, hw1⟩
          rw [b01_f]
          exact fun q => q ⟨t, p', by omega, hlt, q1, q2⟩
      · have hlt : ¬ lg t = some l := fun q => hc ((lgI_eq hl k2).mpr q)
        iterate 1 refine go_s rfl rfl rfl trivial ?_
        exact next B (μ 6032) X5 (wsame.rf B) (by rw [up_id]; exact hw) (fun p' q => hlt q.1)
end MFIRST
end
section
/-! ===== the reference: languages, how many stems ===== -/
/-- words from k on may have changed, the other rows haven't -/
def wsc (k : Nat) (B : Nat → Nat → Int32) (μ : Nat → List Nat) (B' : Nat → Nat → Int32) (μ' : Nat → List Nat) : Prop := wsame B B' ∧ wm B' μ' ∧ ∀ a, a < k → μ' a = μ a
theorem wsc.rf {k : Nat} {B : Nat → Nat → Int32} {μ : Nat → List Nat} (hw : wm B μ) : wsc k B μ B μ := ⟨wsame.rf B, hw, fun _ _ => rfl⟩
theorem wsc.tr {k : Nat} {B B1 B2 : Nat → Nat → Int32} {μ μ1 μ2 : Nat → List Nat} (h1 : wsc k B μ B1 μ1) (h2 : wsc k B1 μ1 B2 μ2) : wsc k B μ B2 μ2 := ⟨h1.1.tr h2.1, h2.2.1, fun a ha => (h2.2.2 a ha).trans (h1.2.2 a ha)⟩
theorem wsc.up {k a : Nat} {B B' : Nat → Nat → Int32} {μ : Nat → List Nat} {w : List Nat} (hs : wsame B B') (hw : wm B' (va_up μ a w)) (ha : k ≤ a) : wsc k B μ B' (va_up μ a w) := ⟨hs, hw, fun c hc => va_up_ne _ _ (by omega)⟩
theorem menv.keepc {I : Nat → Int32} {k : Nat} {B B' : Nat → Nat → Int32} {μ μ' : Nat → List Nat} {E : Nat → List Nat → Option (List Nat)} (h : menv I B μ E) (hs : wsc k B μ B' μ') (hk : 3968 ≤ k) : menv I B' μ' E :=
  h.keep rfl (hs.1 8 (by omega)) (hs.1 9 (by omega)) (fun c _ h2 => hs.2.2 c (by omega))
theorem mtx.keepc {I : Nat → Int32} {k : Nat} {B B' : Nat → Nat → Int32} {μ μ' : Nat → List Nat} {nt : Nat} {lg : Nat → Option Nat} {fd cn : Nat → Nat} {wd : Nat → Nat → List Nat} (h : mtx I B μ nt lg fd cn wd) (hs : wsc k B μ B' μ') (hk : 1920 ≤ k) : mtx I B' μ' nt lg fd cn wd := by
  obtain ⟨h1, h2, h3⟩ := h
  refine ⟨h1, h2, fun t ht => ?_⟩
  obtain ⟨k1, k2, k3, k4, k5, k6, k7⟩ := h3 t ht
  exact ⟨by rw [hs.1 3 (by omega)]; exact k1, k2, by rw [hs.1 4 (by omega)]; exact k3, k4, by rw [hs.1 5 (by omega)]; exact k5, k6, fun p hp => (hs.2.2 _ (by omega)).trans (k7 p hp)⟩
def isL (x : Int32) : Prop := 0 ≤ x ∧ x < 3
theorem isL_nat {x : Int32} (h : isL x) : ∃ l, l < 3 ∧ x = nI l := by
  obtain ⟨j, hj, rfl⟩ := nI_of (x := x) (Int32.not_lt.mpr h.1)
  exact ⟨j, (nI_ltI hj (by omega)).mp h.2, rfl⟩
theorem c_isLanguage (h : List am_C) (x : Int32) : Do m_Mo_isLanguage [.int x] h (fun r h' => r = some (.int (b01 (isL x))) ∧ h' = h) := by
  iterate 2 refine go_s rfl rfl rfl trivial ?_
  refine go_if (fun hc => ?_) (fun hc => ?_)
  · iterate 1 refine go_s rfl rfl rfl trivial ?_
    refine go_r rfl rfl rfl (Or.inl rfl) ⟨?_, rfl⟩
    rw [b01_f (fun q => absurd hc (Int32.not_lt.mpr q.1))]
  · iterate 3 refine go_s rfl rfl rfl trivial ?_
    refine go_if (fun hc2 => ?_) (fun hc2 => ?_)
    · iterate 1 refine go_s rfl rfl rfl trivial ?_
      refine go_r rfl rfl rfl (Or.inl rfl) ⟨?_, rfl⟩
      rw [b01_f (fun q => absurd q.2 (Int32.not_lt.mpr hc2))]
    · iterate 2 refine go_s rfl rfl rfl trivial ?_
      refine go_r rfl rfl rfl (Or.inr rfl) ⟨?_, rfl⟩
      rw [b01_t ⟨Int32.not_lt.mp hc, Int32.not_le.mp hc2⟩]
section MSTEMS
variable {T : Nat → am_C} {D : List am_C} {I : Nat → Int32} {S : Nat → Int64} {E : Nat → List Nat → Option (List Nat)} {nt : Nat} {lg : Nat → Option Nat} {fd cn : Nat → Nat} {wd : Nat → Nat → List Nat} {Q : Option Value → List am_C → Prop}
theorem c_isFirst {B : Nat → Nat → Int32} {μ : Nat → List Nat} {l t0 p0 : Nat} (hw : wm B μ) (hE : menv I B μ E) (hX : mtx I B μ nt lg fd cn wd) (hl : l < 3) (ht0 : t0 < nt) (hp0 : p0 ≤ cn t0) :
    Do m_Mo_isFirst [.ref 48, .int (nI l), .int (nI t0), .int (nI p0)] (hM T I B S D) (fun r h' => r = some (.int (b01 (¬ earQ E lg cn wd l t0 p0 (μ 6033)))) ∧ ∃ B' w, h' = hM T I B' S D ∧ wsame B B' ∧ wm B' (va_up μ 6032 w)) := by
  iterate 2 refine go_s rfl rfl rfl trivial ?_
  exact l_first3 hl ht0 hp0 (t0 + 1) 0 _ B μ hw hE hX rfl (by omega) (fun t' p' h => by omega)
theorem cnt_pos {P : Nat → Prop} {n : Nat} (x : Nat) (hp : P n) : nI (x + cnt P n) + 1 = nI (x + cnt P (n + 1)) := by rw [cnt_t hp, nI_1]; rfl
theorem l_stems2 {l t x : Nat} (hl : l < 3) (ht : t < nt) (hlt : lg t = some l) : ∀ (d p : Nat) (B : Nat → Nat → Int32) (μ : Nat → List Nat), wm B μ → menv I B μ E → mtx I B μ nt lg fd cn wd → cn t = p + d →
    (∀ B' μ', wsc 6032 B μ B' μ' → Go m_Mo_stems 106 [some (.ref 48), some (.int (nI l)), some (.int (nI (x + cnt (fstQ E lg cn wd l t) (cn t)))), some (.int (nI t)), some (.int (nI (cn t)))] [] (hM T I B' S D) Q) →
    Go m_Mo_stems 37 [some (.ref 48), some (.int (nI l)), some (.int (nI (x + cnt (fstQ E lg cn wd l t) p))), some (.int (nI t)), some (.int (nI p))] [] (hM T I B S D) Q := by
  have ct : nt ≤ 40 → (nI t).toNatClampNeg = t := fun h => nI_clamp (by omega)
  intro d
  induction d with
  | zero =>
    intro p B μ hw hE hX hpd hexit
    obtain ⟨x1, x2, x3⟩ := id hX
    obtain ⟨k1, k2, k3, k4, k5, k6, k7⟩ := x3 t ht
    have ep : p = cn t := by omega
    subst ep
    iterate 4 refine go_s rfl rfl rfl trivial ?_
    refine go_s rfl rfl rfl ?_ ?_
    · exact vp_in_nI (by omega) (by omega)
    simp only [ct x2, k5]
    iterate 1 refine go_s rfl rfl rfl trivial ?_
    refine go_if (fun hc => ?_) (fun hc => ?_)
    · exact hexit B μ (wsc.rf hw)
    · exact absurd (Int32.le_refl _) hc
  | succ d ih =>
    intro p B μ hw hE hX hpd hexit
    obtain ⟨x1, x2, x3⟩ := id hX
    obtain ⟨k1, k2, k3, k4, k5, k6, k7⟩ := x3 t ht
    have e48 : (48 : Int32) * nI t + nI p = nI (48 * t + p) := by
      rw [show (48 : Int32) = nI 48 from rfl, pk_mul, nI_add]
    iterate 4 refine go_s rfl rfl rfl trivial ?_
    refine go_s rfl rfl rfl ?_ ?_
    · exact vp_in_nI (by omega) (by omega)
    simp only [ct x2, k5]
    iterate 1 refine go_s rfl rfl rfl trivial ?_
    refine go_if (fun hc => ?_) (fun hc => ?_)
    · exact absurd hc (nI_ge (by omega) (by omega))
    · have next : ∀ (B1 : Nat → Nat → Int32) (μ1 : Nat → List Nat) (q : Int32), wsc 6032 B μ B1 μ1 → q = nI (x + cnt (fstQ E lg cn wd l t) (p + 1)) →
          Go m_Mo_stems 100 [some (.ref 48), some (.int (nI l)), some (.int q), some (.int (nI t)), some (.int (nI p))] [] (hM T I B1 S D) Q := by
        rintro B1 μ1 q hs1 rfl
        iterate 2 refine go_s rfl rfl rfl trivial ?_
        rw [nI_1]
        exact ih (p + 1) B1 μ1 hs1.2.1 (hE.keepc hs1 (by omega)) (hX.keepc hs1 (by omega)) (by omega) (fun B2 μ2 hs2 => hexit B2 μ2 (hs1.tr hs2))
      iterate 7 refine go_s rfl rfl rfl trivial ?_
      rw [e48]
      refine go_c rfl rfl rfl (c_isStop_E hw hE (a := 48 * t + p) (by omega) hl) ?_
      rintro r h3 ⟨rfl, rfl⟩
      rw [k7 p (by omega)]
      iterate 1 refine go_s rfl rfl rfl trivial ?_
      refine go_if (fun hc => ?_) (fun hc => ?_)
      · have hn : ¬ E l (wd t p) = none := b01_eq0.mp hc
        obtain ⟨u, hu⟩ : ∃ u, E l (wd t p) = some u := by
          cases q : E l (wd t p) with
          | none => exact absurd q hn
          | some u => exact ⟨u, rfl⟩
        iterate 7 refine go_s rfl rfl rfl trivial ?_
        rw [e48]
        iterate 1 refine go_s rfl rfl rfl trivial ?_
        refine go_c rfl rfl rfl (c_stemTo_E hw hE hl (a := 48 * t + p) (to := 6033) (by omega) (by omega) (by omega) (by omega) (by rw [k7 p (by omega)]; exact hu)) ?_
        rintro r h3 ⟨rfl, B1, rfl, hs1, hw1⟩
        have w1 : wsc 6032 B μ B1 (va_up μ 6033 u) := wsc.up hs1 hw1 (by omega)
        iterate 5 refine go_s rfl rfl rfl trivial ?_
        refine go_c rfl rfl rfl (c_isFirst hw1 (hE.keepc w1 (by omega)) (hX.keepc w1 (by omega)) hl ht (p0 := p) (by omega)) ?_
        rintro r h3 ⟨rfl, B2, w2, rfl, hs2, hw2⟩
        rw [va_up_self]
        have w2 : wsc 6032 B μ B2 _ := w1.tr (wsc.up hs2 hw2 (by omega))
        have hiff : fstQ E lg cn wd l t p ↔ ¬ earQ E lg cn wd l t p u := by
          constructor
          · rintro ⟨v, hv, hv2⟩
            rw [hu] at hv
            cases hv
            exact hv2
          · exact fun q => ⟨u, hu, q⟩
        iterate 1 refine go_s rfl rfl rfl trivial ?_
        refine go_if (fun hc2 => ?_) (fun hc2 => ?_)
        · have hq := b01_eq0.mp hc2
          iterate 3 refine go_s rfl rfl rfl trivial ?_
          exact next B2 _ _ w2 (by rw [cnt_f (fun q => hq (hiff.mp q))]; exact nI_add _ 0)
        · have hq := Classical.not_not.mp fun q => hc2 (b01_f q)
          iterate 4 refine go_s rfl rfl rfl trivial ?_
          exact next B2 _ _ w2 (cnt_pos x (hiff.mpr hq))
      · have hn : E l (wd t p) = none := Classical.not_not.mp fun q => hc (b01_f q)
        iterate 1 refine go_s rfl rfl rfl trivial ?_
        refine next B μ _ (wsc.rf hw) ?_
        rw [cnt_f]
        rintro ⟨v, hv, -⟩
        rw [hn] at hv
        cases hv
/-- of one text -/
noncomputable def stT (E : Nat → List Nat → Option (List Nat)) (lg : Nat → Option Nat) (cn : Nat → Nat) (wd : Nat → Nat → List Nat) (l t : Nat) : Nat := if lg t = some l then cnt (fstQ E lg cn wd l t) (cn t) else 0
theorem l_stems1 {l : Nat} (hl : l < 3) : ∀ (d t : Nat) (X4 : Option Value) (B : Nat → Nat → Int32) (μ : Nat → List Nat), wm B μ → menv I B μ E → mtx I B μ nt lg fd cn wd → nt = t + d →
    Go m_Mo_stems 13 [some (.ref 48), some (.int (nI l)), some (.int (nI (sumN (stT E lg cn wd l) t))), some (.int (nI t)), X4] [] (hM T I B S D) (fun r h' => r = some (.int (nI (sumN (stT E lg cn wd l) nt))) ∧ ∃ B' μ', h' = hM T I B' S D ∧ wsc 6032 B μ B' μ') := by
  intro d
  induction d with
  | zero =>
    intro t X4 B μ hw hE hX htd
    obtain ⟨x1, x2, x3⟩ := id hX
    have et : t = nt := by omega
    subst et
    iterate 3 refine go_s rfl rfl rfl trivial ?_
    rw [x1]
    iterate 1 refine go_s rfl rfl rfl trivial ?_
    refine go_if (fun hc => ?_) (fun hc => ?_)
    · iterate 1 refine go_s rfl rfl rfl trivial ?_
      exact go_r rfl rfl rfl trivial ⟨rfl, B, μ, rfl, wsc.rf hw⟩
    · exact absurd (Int32.le_refl _) hc
  | succ d ih =>
    intro t X4 B μ hw hE hX htd
    obtain ⟨x1, x2, x3⟩ := id hX
    obtain ⟨k1, k2, k3, k4, k5, k6, k7⟩ := x3 t (by omega)
    have ct : (nI t).toNatClampNeg = t := nI_clamp (by omega)
    iterate 3 refine go_s rfl rfl rfl trivial ?_
    rw [x1]
    iterate 1 refine go_s rfl rfl rfl trivial ?_
    refine go_if (fun hc => ?_) (fun hc => ?_)
    · exact absurd hc (nI_ge (by omega) (by omega))
    · iterate 3 refine go_s rfl rfl rfl trivial ?_
      refine go_s rfl rfl rfl ?_ ?_
      · exact vp_in_nI (by omega) (by omega)
      simp only [ct, k1]
      iterate 2 refine go_s rfl rfl rfl trivial ?_
      refine go_if (fun hc => ?_) (fun hc => ?_)
      · have hlt : lg t = some l := (lgI_eq hl k2).mp hc
        iterate 2 refine go_s rfl rfl rfl trivial ?_
        refine l_stems2 (x := sumN (stT E lg cn wd l) t) hl (by omega) hlt (cn t) 0 B μ hw hE hX (by omega) (fun B1 μ1 hs1 => ?_)
        iterate 2 refine go_s rfl rfl rfl trivial ?_
        rw [nI_1]
        have es : sumN (stT E lg cn wd l) (t + 1) = sumN (stT E lg cn wd l) t + cnt (fstQ E lg cn wd l t) (cn t) := by
          simp only [sumN, stT, if_pos hlt]
        rw [← es]
        refine (ih (t + 1) _ B1 μ1 hs1.2.1 (hE.keepc hs1 (by omega)) (hX.keepc hs1 (by omega)) (by omega)).mono fun rr h' h => ?_
        obtain ⟨g1, B2, μ2, g2, g3⟩ := h
        exact ⟨g1, B2, μ2, g2, hs1.tr g3⟩
      · have hlt : ¬ lg t = some l := fun q => hc ((lgI_eq hl k2).mpr q)
        iterate 3 refine go_s rfl rfl rfl trivial ?_
        rw [nI_1]
        have es : sumN (stT E lg cn wd l) (t + 1) = sumN (stT E lg cn wd l) t := by
          simp only [sumN, stT, if_neg hlt, Nat.add_zero]
        have := ih (t + 1) X4 B μ hw hE hX (by omega)
        rw [es] at this
        exact this
/-- stems -/
theorem c_stems {B : Nat → Nat → Int32} {μ : Nat → List Nat} (hw : wm B μ) (hE : menv I B μ E) (hX : mtx I B μ nt lg fd cn wd) (x : Int32) :
    Do m_Mo_stems [.ref 48, .int x] (hM T I B S D) (fun r h' => ((¬ isL x ∧ r = some (.int (-1))) ∨ ∃ l, l < 3 ∧ x = nI l ∧ r = some (.int (nI (sumN (stT E lg cn wd l) nt)))) ∧ ∃ B' μ', h' = hM T I B' S D ∧ wsc 6032 B μ B' μ') := by
  iterate 1 refine go_s rfl rfl rfl trivial ?_
  refine go_c rfl rfl rfl (c_isLanguage _ x) ?_
  rintro r h3 ⟨rfl, rfl⟩
  iterate 1 refine go_s rfl rfl rfl trivial ?_
  refine go_if (fun hc => ?_) (fun hc => ?_)
  · have hq : isL x := Classical.not_not.mp fun q => hc (b01_f q)
    obtain ⟨l, hl, rfl⟩ := isL_nat hq
    iterate 4 refine go_s rfl rfl rfl trivial ?_
    refine (l_stems1 hl nt 0 _ B μ hw hE hX (by omega)).mono fun rr h' h => ⟨Or.inr ⟨l, hl, rfl, h.1⟩, h.2⟩
  · have hq : ¬ isL x := fun q => hc (by rw [b01_t q]; decide)
    iterate 1 refine go_s rfl rfl rfl trivial ?_
    exact go_r rfl rfl rfl trivial ⟨Or.inl ⟨hq, rfl⟩, B, μ, rfl, wsc.rf hw⟩
end MSTEMS
end
section
/-! ===== the reference: letters, what is shown, answers, texts ===== -/
def dgI (x : Int32) : Int32 := if 48 ≤ x ∧ x ≤ 57 then x else 0
def l17I (x : Int32) : Int32 := if 97 ≤ x ∧ x ≤ 122 then x else dgI x
def lteI (x : Int32) : Int32 := if 65 ≤ x ∧ x ≤ 90 then x + 32 else l17I x
/-- a letter (a small one) or digit; 0 -/
def ltr (b : Nat) : Nat := if 65 ≤ b ∧ b ≤ 90 then b + 32 else if (97 ≤ b ∧ b ≤ 122) ∨ (48 ≤ b ∧ b ≤ 57) then b else 0
/-- a byte as the reference's tape has it -/
def sbI (b : Nat) : Int32 := (nI b).toInt8.toInt32
theorem lteI_sb {b : Nat} (hb : b < 256) : lteI (sbI b) = nI (ltr b) := by
  have h : ∀ b : Nat, b < 256 → lteI (sbI b) = nI (ltr b) := by decide +kernel
  exact h b hb
theorem ltr_lt {b : Nat} (hb : b < 256) : ltr b < 128 := by
  simp only [ltr]
  split
  · omega
  · split <;> omega
theorem l_let29 (h : List am_C) (x : Int32) : Go m_Mo_letter 29 [some (.int x)] [] h (fun r h' => r = some (.int (dgI x)) ∧ h' = h) := by
  iterate 3 refine go_s rfl rfl rfl trivial ?_
  refine go_if (fun h1 => ?_) (fun h1 => ?_)
  · iterate 1 refine go_s rfl rfl rfl trivial ?_
    refine go_r rfl rfl rfl trivial ⟨?_, rfl⟩
    rw [dgI, if_neg (fun q => absurd h1 (Int32.not_lt.mpr q.1))]
  · iterate 3 refine go_s rfl rfl rfl trivial ?_
    refine go_if (fun h2 => ?_) (fun h2 => ?_)
    · iterate 1 refine go_s rfl rfl rfl trivial ?_
      refine go_r rfl rfl rfl trivial ⟨?_, rfl⟩
      rw [dgI, if_neg (fun q => absurd h2 (Int32.not_lt.mpr q.2))]
    · iterate 2 refine go_s rfl rfl rfl trivial ?_
      refine go_r rfl rfl rfl trivial ⟨?_, rfl⟩
      rw [dgI, if_pos ⟨Int32.not_lt.mp h1, Int32.not_lt.mp h2⟩]
theorem l_let17 (h : List am_C) (x : Int32) : Go m_Mo_letter 17 [some (.int x)] [] h (fun r h' => r = some (.int (l17I x)) ∧ h' = h) := by
  iterate 3 refine go_s rfl rfl rfl trivial ?_
  refine go_if (fun h1 => ?_) (fun h1 => ?_)
  · rw [l17I, if_neg (fun q => absurd h1 (Int32.not_lt.mpr q.1))]
    exact l_let29 h x
  · iterate 3 refine go_s rfl rfl rfl trivial ?_
    refine go_if (fun h2 => ?_) (fun h2 => ?_)
    · iterate 2 refine go_s rfl rfl rfl trivial ?_
      refine go_r rfl rfl rfl trivial ⟨?_, rfl⟩
      rw [l17I, if_pos ⟨Int32.not_lt.mp h1, h2⟩]
    · rw [l17I, if_neg (fun q => h2 q.2)]
      exact l_let29 h x
theorem c_letter (h : List am_C) (x : Int32) : Do m_Mo_letter [.int x] h (fun r h' => r = some (.int (lteI x)) ∧ h' = h) := by
  iterate 3 refine go_s rfl rfl rfl trivial ?_
  refine go_if (fun h1 => ?_) (fun h1 => ?_)
  · rw [lteI, if_neg (fun q => absurd h1 (Int32.not_lt.mpr q.1))]
    exact l_let17 h x
  · iterate 3 refine go_s rfl rfl rfl trivial ?_
    refine go_if (fun h2 => ?_) (fun h2 => ?_)
    · rw [lteI, if_neg (fun q => absurd h2 (Int32.not_lt.mpr q.2))]
      exact l_let17 h x
    · iterate 3 refine go_s rfl rfl rfl trivial ?_
      refine go_r rfl rfl rfl trivial ⟨?_, rfl⟩
      rw [lteI, if_pos ⟨Int32.not_lt.mp h1, Int32.not_lt.mp h2⟩]
/-- what is shown -/
def mshown (I : Nat → Int32) (B : Nat → Nat → Int32) (w : List Nat) : Prop := I 11 = nI w.length ∧ w.length ≤ 12 ∧ ∀ k, k < w.length → B 18 k = nI (w.getD k 0)
section MSHOW
variable {T : Nat → am_C} {D : List am_C} {I : Nat → Int32} {B : Nat → Nat → Int32} {S : Nat → Int64} {μ : Nat → List Nat}
theorem wm.keep2 {B B' : Nat → Nat → Int32} {μ : Nat → List Nat} (hw : wm B μ) (h0 : B' 0 = B 0) (h1 : B' 1 = B 1) : wm B' μ := fun a ha => by rw [h0, h1]; exact hw a ha
theorem l_show {a : Nat} (ha : a < 6034) : ∀ (d k : Nat) (B : Nat → Nat → Int32), wm B μ → (μ a).length = k + d → I 11 = nI (μ a).length → (∀ j, j < k → B 18 j = nI ((μ a).getD j 0)) →
    Go m_Mo_show 12 [some (.ref 48), some (.int (nI a)), some (.int (nI k))] [] (hM T I B S D) (fun r h' => r = some (.int (nI (μ a).length)) ∧ ∃ B', h' = hM T I B' S D ∧ (∀ i, i ≠ 18 → B' i = B i) ∧ mshown I B' (μ a)) := by
  intro d
  induction d with
  | zero =>
    intro k B hw hk hI hj
    obtain ⟨a12, aL, -, -⟩ := hw a ha
    iterate 3 refine go_s rfl rfl rfl trivial ?_
    rw [hI]
    iterate 1 refine go_s rfl rfl rfl trivial ?_
    refine go_if (fun hc => ?_) (fun hc => ?_)
    · iterate 2 refine go_s rfl rfl rfl trivial ?_
      rw [hI]
      exact go_r rfl rfl rfl trivial ⟨rfl, B, rfl, fun _ _ => rfl, hI, a12, fun j h => hj j (by omega)⟩
    · exact absurd (nI_le (by omega) (by omega)) hc
  | succ d ih =>
    intro k B hw hk hI hj
    obtain ⟨a12, aL, -, -⟩ := hw a ha
    have ck : (nI k).toNatClampNeg = k := nI_clamp (by omega)
    iterate 3 refine go_s rfl rfl rfl trivial ?_
    rw [hI]
    iterate 1 refine go_s rfl rfl rfl trivial ?_
    refine go_if (fun hc => ?_) (fun hc => ?_)
    · exact absurd hc (nI_ge (by omega) (by omega))
    · iterate 6 refine go_s rfl rfl rfl trivial ?_
      refine go_c rfl rfl rfl (c_byteOf_w hw ha (k := k) (by omega)) ?_
      rintro r h3 ⟨rfl, rfl⟩
      have la := hw.at_lt (k := k) ha
      iterate 1 refine go_s rfl rfl rfl trivial ?_
      refine go_s rfl rfl rfl ?_ ?_
      · exact vp_in_nI (by omega) (by omega)
      simp only [ck, nar_byte la]
      iterate 2 refine go_s rfl rfl rfl trivial ?_
      rw [nI_1]
      have h18 : ∀ i, i ≠ 18 → va_up B 18 (upd (B 18) k (nI ((μ a).getD k 0))) i = B i := fun i hi => va_up_ne _ _ hi
      refine Go.mono (ih (k + 1) (va_up B 18 (upd (B 18) k (nI ((μ a).getD k 0)))) (hw.keep2 (h18 0 (by decide)) (h18 1 (by decide))) (by omega) hI (fun j hjk => ?_)) fun rr h' h => ?_
      · rw [va_up_self]
        rcases Nat.lt_or_ge j k with h | h
        · rw [pk_un (by omega)]; exact hj j h
        · rw [show j = k by omega, pk_us]
      · obtain ⟨g1, B2, g2, g3, g4⟩ := h
        exact ⟨g1, B2, g2, fun i hi => (g3 i hi).trans (h18 i hi), g4⟩
theorem c_show (hw : wm B μ) {a : Nat} (ha : a < 6034) : Do m_Mo_show [.ref 48, .int (nI a)] (hM T I B S D) (fun r h' => r = some (.int (nI (μ a).length)) ∧ ∃ B', h' = hM T (va_up I 11 (nI (μ a).length)) B' S D ∧ (∀ i, i ≠ 18 → B' i = B i) ∧ mshown (va_up I 11 (nI (μ a).length)) B' (μ a)) := by
  obtain ⟨a12, aL, -, -⟩ := hw a ha
  have ca : (nI a).toNatClampNeg = a := nI_clamp (by omega)
  iterate 4 refine go_s rfl rfl rfl trivial ?_
  refine go_s rfl rfl rfl ?_ ?_
  · exact vp_in_nI ha (by omega)
  simp only [ca, aL]
  iterate 3 refine go_s rfl rfl rfl trivial ?_
  exact l_show (I := va_up I 11 (nI (μ a).length)) ha (μ a).length 0 B hw (by omega) (va_up_self _ _ _) (fun j hj => by omega)
/-- at -/
def atS (w : List Nat) (x : Int32) : Int32 := if 0 ≤ x ∧ x < nI w.length then nI (w.getD x.toNatClampNeg 0) else -1
theorem c_at {w : List Nat} (hs : mshown I B w) (x : Int32) : Do m_Mo_at [.ref 48, .int x] (hM T I B S D) (fun r h' => r = some (.int (atS w x)) ∧ h' = hM T I B S D) := by
  obtain ⟨s1, s2, s3⟩ := hs
  iterate 2 refine go_s rfl rfl rfl trivial ?_
  refine go_if (fun h1 => ?_) (fun h1 => ?_)
  · iterate 1 refine go_s rfl rfl rfl trivial ?_
    refine go_r rfl rfl rfl trivial ⟨?_, rfl⟩
    rw [atS, if_neg (fun q => absurd h1 (Int32.not_lt.mpr q.1))]
  · iterate 3 refine go_s rfl rfl rfl trivial ?_
    rw [s1]
    iterate 1 refine go_s rfl rfl rfl trivial ?_
    refine go_if (fun h2 => ?_) (fun h2 => ?_)
    · iterate 1 refine go_s rfl rfl rfl trivial ?_
      refine go_r rfl rfl rfl trivial ⟨?_, rfl⟩
      rw [atS, if_neg (fun q => absurd q.2 (Int32.not_lt.mpr h2))]
    · obtain ⟨j, hj, rfl⟩ := nI_of (x := x) h1
      have hjl : j < w.length := (nI_ltI hj (by omega)).mp (Int32.not_le.mp h2)
      iterate 3 refine go_s rfl rfl rfl trivial ?_
      refine go_s rfl rfl rfl ?_ ?_
      · exact vp_in_nI (by omega) (by omega)
      iterate 1 refine go_s rfl rfl rfl trivial ?_
      refine go_r rfl rfl rfl trivial ⟨?_, rfl⟩
      rw [nI_clamp hj, s3 j hjl, atS, if_pos ⟨Int32.not_lt.mp h1, Int32.not_le.mp h2⟩, nI_clamp hj]
/-- answers -/
def mans (I : Nat → Int32) (B : Nat → Nat → Int32) (S : Nat → Int64) (na : Nat) (an : Nat → Nat) (sc : Nat → Int64) : Prop := I 9 = nI na ∧ na ≤ 40 ∧ ∀ i, i < na → B 16 i = nI (an i) ∧ S i = sc i
def ansS (na : Nat) (an : Nat → Nat) (x : Int32) : Int32 := if 0 ≤ x ∧ x < nI na then nI (an x.toNatClampNeg) else -2
def scoS (na : Nat) (sc : Nat → Int64) (x : Int32) : Int64 := if 0 ≤ x ∧ x < nI na then sc x.toNatClampNeg else 0
theorem c_answer {na : Nat} {an : Nat → Nat} {sc : Nat → Int64} (hs : mans I B S na an sc) (x : Int32) : Do m_Mo_answer [.ref 48, .int x] (hM T I B S D) (fun r h' => r = some (.int (ansS na an x)) ∧ h' = hM T I B S D) := by
  obtain ⟨s1, s2, s3⟩ := hs
  iterate 2 refine go_s rfl rfl rfl trivial ?_
  refine go_if (fun h1 => ?_) (fun h1 => ?_)
  · iterate 1 refine go_s rfl rfl rfl trivial ?_
    refine go_r rfl rfl rfl trivial ⟨?_, rfl⟩
    rw [ansS, if_neg (fun q => absurd h1 (Int32.not_lt.mpr q.1))]
  · iterate 3 refine go_s rfl rfl rfl trivial ?_
    rw [s1]
    iterate 1 refine go_s rfl rfl rfl trivial ?_
    refine go_if (fun h2 => ?_) (fun h2 => ?_)
    · iterate 1 refine go_s rfl rfl rfl trivial ?_
      refine go_r rfl rfl rfl trivial ⟨?_, rfl⟩
      rw [ansS, if_neg (fun q => absurd q.2 (Int32.not_lt.mpr h2))]
    · obtain ⟨j, hj, rfl⟩ := nI_of (x := x) h1
      have hjl : j < na := (nI_ltI hj (by omega)).mp (Int32.not_le.mp h2)
      iterate 3 refine go_s rfl rfl rfl trivial ?_
      refine go_s rfl rfl rfl ?_ ?_
      · exact vp_in_nI (by omega) (by omega)
      iterate 1 refine go_s rfl rfl rfl trivial ?_
      refine go_r rfl rfl rfl trivial ⟨?_, rfl⟩
      rw [nI_clamp hj, (s3 j hjl).1, ansS, if_pos ⟨Int32.not_lt.mp h1, Int32.not_le.mp h2⟩, nI_clamp hj]
theorem c_score {na : Nat} {an : Nat → Nat} {sc : Nat → Int64} (hs : mans I B S na an sc) (x : Int32) : Do m_Mo_score [.ref 48, .int x] (hM T I B S D) (fun r h' => r = some (.long (scoS na sc x)) ∧ h' = hM T I B S D) := by
  obtain ⟨s1, s2, s3⟩ := hs
  iterate 2 refine go_s rfl rfl rfl trivial ?_
  refine go_if (fun h1 => ?_) (fun h1 => ?_)
  · iterate 1 refine go_s rfl rfl rfl trivial ?_
    refine go_r rfl rfl rfl trivial ⟨?_, rfl⟩
    rw [scoS, if_neg (fun q => absurd h1 (Int32.not_lt.mpr q.1))]
  · iterate 3 refine go_s rfl rfl rfl trivial ?_
    rw [s1]
    iterate 1 refine go_s rfl rfl rfl trivial ?_
    refine go_if (fun h2 => ?_) (fun h2 => ?_)
    · iterate 1 refine go_s rfl rfl rfl trivial ?_
      refine go_r rfl rfl rfl trivial ⟨?_, rfl⟩
      rw [scoS, if_neg (fun q => absurd q.2 (Int32.not_lt.mpr h2))]
    · obtain ⟨j, hj, rfl⟩ := nI_of (x := x) h1
      have hjl : j < na := (nI_ltI hj (by omega)).mp (Int32.not_le.mp h2)
      iterate 3 refine go_s rfl rfl rfl trivial ?_
      refine go_s rfl rfl rfl ?_ ?_
      · exact vp_in_nI (by omega) (by omega)
      iterate 1 refine go_s rfl rfl rfl trivial ?_
      refine go_r rfl rfl rfl trivial ⟨?_, rfl⟩
      rw [nI_clamp hj, (s3 j hjl).2, scoS, if_pos ⟨Int32.not_lt.mp h1, Int32.not_le.mp h2⟩, nI_clamp hj]
end MSHOW
end
section
/-! ===== the words of the tape ===== -/
/-- what the first bytes of the tape hold: how many words, whether one is open, the words (of each the first 12 bytes), where they begin, how long they are -/
abbrev wS : Type := Nat × Bool × (Nat → List Nat) × (Nat → Nat) × (Nat → Nat)
def addw (w : List Nat) (b : Nat) : List Nat := if w.length = 12 then w else w ++ [b]
def newS (z : wS) (k : Nat) : wS := (z.1 + 1, true, va_up z.2.2.1 z.1 [], va_up z.2.2.2.1 z.1 k, va_up z.2.2.2.2 z.1 0)
def addS (z : wS) (b : Nat) : wS := (z.1, true, va_up z.2.2.1 (z.1 - 1) (addw (z.2.2.1 (z.1 - 1)) b), z.2.2.2.1, va_up z.2.2.2.2 (z.1 - 1) (z.2.2.2.2 (z.1 - 1) + 1))
def stS (z : wS) (k b : Nat) : wS := if b = 0 then (z.1, false, z.2.2) else if z.2.1 = true then addS z b else addS (newS z k) b
def wst (tb : Nat → Nat) : Nat → wS
  | 0 => (0, false, fun _ => [], fun _ => 0, fun _ => 0)
  | k + 1 => stS (wst tb k) k (ltr (tb k))
/-- two places for a word and what ends it -/
theorem wst_len (tb : Nat → Nat) : ∀ k, ((wst tb k).2.1 = true → 2 * (wst tb k).1 ≤ k + 1 ∧ 1 ≤ (wst tb k).1) ∧ ((wst tb k).2.1 = false → 2 * (wst tb k).1 ≤ k)
  | 0 => ⟨fun h => by simp [wst] at h, fun _ => Nat.le_refl 0⟩
  | k + 1 => by
    obtain ⟨i1, i2⟩ := wst_len tb k
    simp only [wst, stS]
    split
    · refine ⟨fun h => by simp at h, fun _ => ?_⟩
      show 2 * (wst tb k).1 ≤ k + 1
      cases h : (wst tb k).2.1 with
      | true => exact (i1 h).1
      | false => have := i2 h; omega
    · split
      · rename_i h
        refine ⟨fun _ => ?_, fun q => by simp [addS] at q⟩
        show 2 * (wst tb k).1 ≤ k + 1 + 1 ∧ 1 ≤ (wst tb k).1
        have := i1 h
        omega
      · rename_i h
        refine ⟨fun _ => ?_, fun q => by simp [addS] at q⟩
        show 2 * ((wst tb k).1 + 1) ≤ k + 1 + 1 ∧ 1 ≤ (wst tb k).1 + 1
        have := i2 (by simpa using h)
        omega
def mtap (I : Nat → Int32) (B : Nat → Nat → Int32) (μ : Nat → List Nat) (z : wS) : Prop := I 4 = nI z.1 ∧ ∀ i, i < z.1 → μ (3968 + i) = z.2.2.1 i ∧ B 10 i = nI (z.2.2.2.1 i) ∧ B 11 i = nI (z.2.2.2.2 i)
/-- the tape of the reference -/
def mtape (I : Nat → Int32) (B : Nat → Nat → Int32) (tb : Nat → Nat) (n : Nat) : Prop := I 0 = nI n ∧ n ≤ 96 ∧ ∀ j, j < n → B 2 j = sbI (tb j) ∧ tb j < 256
/-- what reading the words changes -/
def rwk (I : Nat → Int32) (B : Nat → Nat → Int32) (μ : Nat → List Nat) (I' : Nat → Int32) (B' : Nat → Nat → Int32) (μ' : Nat → List Nat) : Prop := (∀ i, i ≠ 0 → i ≠ 4 → I' i = I i) ∧ (∀ i, 2 ≤ i → i ≠ 10 → i ≠ 11 → B' i = B i) ∧ wm B' μ' ∧ ∀ a, a < 3968 ∨ 4016 ≤ a → μ' a = μ a
theorem rwk.tr {I I1 I2 : Nat → Int32} {B B1 B2 : Nat → Nat → Int32} {μ μ1 μ2 : Nat → List Nat} (h1 : rwk I B μ I1 B1 μ1) (h2 : rwk I1 B1 μ1 I2 B2 μ2) : rwk I B μ I2 B2 μ2 :=
  ⟨fun i a b => (h2.1 i a b).trans (h1.1 i a b), fun i a b c => (h2.2.1 i a b c).trans (h1.2.1 i a b c), h2.2.2.1, fun a ha => (h2.2.2.2 a ha).trans (h1.2.2.2 a ha)⟩
section MREAD
variable {T : Nat → am_C} {D : List am_C} {S : Nat → Int64} {Q : Option Value → List am_C → Prop}
/-- a byte comes to the open word -/
theorem l_rw96 {I : Nat → Int32} {B : Nat → Nat → Int32} {μ : Nat → List Nat} {z : wS} {k b : Nat} (hw : wm B μ) (hz : mtap I B μ z) (hz1 : 1 ≤ z.1) (hz2 : z.1 ≤ 48) (hb : b < 128) (hL : z.2.2.2.2 (z.1 - 1) < 1000)
    (kk : ∀ B' μ', wm B' μ' → mtap I B' μ' (addS z b) → rwk I B μ I B' μ' → Go m_Mo_readWords 9 [some (.ref 48), some (.int 1), some (.int (nI (k + 1))), some (.int (nI b))] [] (hM T I B' S D) Q) :
    Go m_Mo_readWords 96 [some (.ref 48), some (.int 1), some (.int (nI k)), some (.int (nI b))] [] (hM T I B S D) Q := by
  obtain ⟨z1, z2⟩ := hz
  have e1 : (3968 : Int32) + nI z.1 - 1 = nI (3968 + (z.1 - 1)) := by
    rw [show (3968 : Int32) = nI 3968 from rfl, nI_add, show (1 : Int32) = nI 1 from rfl, pk_sub (by omega), show 3968 + z.1 - 1 = 3968 + (z.1 - 1) by omega]
  have e2 : nI z.1 - 1 = nI (z.1 - 1) := by
    rw [show (1 : Int32) = nI 1 from rfl, pk_sub (by omega)]
  have cz : (nI (z.1 - 1)).toNatClampNeg = z.1 - 1 := nI_clamp (by omega)
  iterate 8 refine go_s rfl rfl rfl trivial ?_
  rw [z1, e1]
  refine go_c rfl rfl rfl (c_add hw (a := 3968 + (z.1 - 1)) (by omega) hb) ?_
  rintro r h3 ⟨rfl, B1, rfl, hs1, hw1⟩
  iterate 7 refine go_s rfl rfl rfl trivial ?_
  rw [z1, e2]
  refine go_s rfl rfl rfl ?_ ?_
  · exact vp_in_nI (by omega) (by omega)
  iterate 2 refine go_s rfl rfl rfl trivial ?_
  refine go_s rfl rfl rfl ?_ ?_
  · exact vp_in_nI (by omega) (by omega)
  simp only [cz]
  iterate 2 refine go_s rfl rfl rfl trivial ?_
  rw [nI_1]
  have hlast := z2 (z.1 - 1) (by omega)
  have h11 : B1 11 (z.1 - 1) + 1 = nI (z.2.2.2.2 (z.1 - 1) + 1) := by rw [hs1 11 (by omega), hlast.2.2, nI_1]
  have k01 : ∀ i, i ≠ 11 → va_up B1 11 (upd (B1 11) (z.1 - 1) (B1 11 (z.1 - 1) + 1)) i = B1 i := fun i hi => va_up_ne _ _ hi
  refine kk (va_up B1 11 (upd (B1 11) (z.1 - 1) (B1 11 (z.1 - 1) + 1))) _ (hw1.keep2 (k01 0 (by decide)) (k01 1 (by decide))) ⟨z1, fun i hi => ?_⟩ ⟨fun _ _ _ => rfl, fun i h2 h10 h11 => (k01 i h11).trans (hs1 i h2), hw1.keep2 (k01 0 (by decide)) (k01 1 (by decide)), fun a ha => va_up_ne _ _ (by omega)⟩
  have hi' : i < z.1 := hi
  by_cases ei : i = z.1 - 1
  · subst ei
    refine ⟨?_, ?_, ?_⟩
    · rw [va_up_self]
      show _ = va_up z.2.2.1 (z.1 - 1) (addw (z.2.2.1 (z.1 - 1)) b) (z.1 - 1)
      rw [va_up_self, hlast.1]
      rfl
    · rw [k01 10 (by decide), hs1 10 (by omega)]
      exact hlast.2.1
    · rw [va_up_self, pk_us, h11]
      show _ = nI (va_up z.2.2.2.2 (z.1 - 1) (z.2.2.2.2 (z.1 - 1) + 1) (z.1 - 1))
      rw [va_up_self]
  · obtain ⟨y1, y2, y3⟩ := z2 i hi'
    refine ⟨?_, ?_, ?_⟩
    · rw [va_up_ne _ _ (by omega), y1]
      exact (va_up_ne _ _ ei).symm
    · rw [k01 10 (by decide), hs1 10 (by omega)]
      exact y2
    · rw [va_up_self, pk_un ei, hs1 11 (by omega), y3]
      exact congrArg nI (va_up_ne _ _ ei).symm
end MREAD
end
section
/-! ===== readWords ===== -/
def bI (b : Bool) : Int32 := if b then 1 else 0
theorem wst_sz (tb : Nat → Nat) : ∀ k i, (wst tb k).2.2.2.2 i ≤ k
  | 0, _ => Nat.le_refl 0
  | k + 1, i => by
    have ih := wst_sz tb k
    have ihi := ih i
    have key : ∀ (g : Nat → Nat) (a x : Nat), g i ≤ k → x ≤ k + 1 → va_up g a x i ≤ k + 1 := by
      intro g a x h1 h2
      by_cases e : i = a
      · subst e; rw [va_up_self]; exact h2
      · rw [va_up_ne _ _ e]; omega
    have key2 : ∀ (z : wS) (b : Nat), (∀ j, z.2.2.2.2 j ≤ k) → (addS z b).2.2.2.2 i ≤ k + 1 := by
      intro z b h
      exact key _ _ _ (h i) (by have := h (z.1 - 1); omega)
    simp only [wst, stS]
    split
    · show (wst tb k).2.2.2.2 i ≤ k + 1
      omega
    · split
      · exact key2 _ _ ih
      · refine key2 _ _ fun j => ?_
        show va_up (wst tb k).2.2.2.2 (wst tb k).1 0 j ≤ k
        by_cases e : j = (wst tb k).1
        · subst e; rw [va_up_self]; omega
        · rw [va_up_ne _ _ e]; exact ih j
section MREAD2
variable {T : Nat → am_C} {D : List am_C} {S : Nat → Int64}
theorem mtape.keep {I I' : Nat → Int32} {B B' : Nat → Nat → Int32} {tb : Nat → Nat} {n : Nat} (h : mtape I B tb n) (h0 : I' 0 = I 0) (h2 : B' 2 = B 2) : mtape I' B' tb n := by
  obtain ⟨a1, a2, a3⟩ := h
  exact ⟨h0.trans a1, a2, fun j hj => by rw [h2]; exact a3 j hj⟩
theorem rwk.rf {I : Nat → Int32} {B : Nat → Nat → Int32} {μ : Nat → List Nat} (hw : wm B μ) : rwk I B μ I B μ := ⟨fun _ _ _ => rfl, fun _ _ _ _ => rfl, hw, fun _ _ => rfl⟩
theorem l_rw9 {tb : Nat → Nat} {n : Nat} : ∀ (d k : Nat) (I : Nat → Int32) (B : Nat → Nat → Int32) (μ : Nat → List Nat) (X3 : Option Value), wm B μ → mtape I B tb n → mtap I B μ (wst tb k) → n = k + d →
    Go m_Mo_readWords 9 [some (.ref 48), some (.int (bI (wst tb k).2.1)), some (.int (nI k)), X3] [] (hM T I B S D) (fun r h' => r = none ∧ ∃ I' B' μ', h' = hM T I' B' S D ∧ I' 0 = 0 ∧ mtap I' B' μ' (wst tb n) ∧ rwk I B μ I' B' μ') := by
  intro d
  induction d with
  | zero =>
    intro k I B μ X3 hw ht hm hk
    have ek : k = n := by omega
    subst ek
    iterate 3 refine go_s rfl rfl rfl trivial ?_
    rw [ht.1]
    iterate 1 refine go_s rfl rfl rfl trivial ?_
    refine go_if (fun hc => ?_) (fun hc => ?_)
    · iterate 3 refine go_s rfl rfl rfl trivial ?_
      refine go_r rfl rfl rfl trivial ⟨rfl, va_up I 0 0, B, μ, rfl, va_up_self _ _ _, ⟨?_, hm.2⟩, fun i h0 h4 => va_up_ne _ _ h0, fun _ _ _ _ => rfl, hw, fun _ _ => rfl⟩
      rw [va_up_ne _ _ (by decide)]
      exact hm.1
    · exact absurd (Int32.le_refl _) hc
  | succ d ih =>
    intro k I B μ X3 hw ht hm hk
    obtain ⟨t1, t2, t3⟩ := id ht
    obtain ⟨t4, t5⟩ := t3 k (by omega)
    have ck : (nI k).toNatClampNeg = k := nI_clamp (by omega)
    have hb := ltr_lt t5
    have hl1 := (wst_len tb k).1
    have hl2 := (wst_len tb k).2
    have hsz := wst_sz tb k
    have e0 : wst tb (k + 1) = stS (wst tb k) k (ltr (tb k)) := rfl
    iterate 3 refine go_s rfl rfl rfl trivial ?_
    rw [t1]
    iterate 1 refine go_s rfl rfl rfl trivial ?_
    refine go_if (fun hc => ?_) (fun hc => ?_)
    · exact absurd hc (nI_ge (by omega) (by omega))
    · iterate 3 refine go_s rfl rfl rfl trivial ?_
      refine go_s rfl rfl rfl ?_ ?_
      · exact vp_in_nI (by omega) (by omega)
      simp only [ck, t4]
      refine go_c rfl rfl rfl (c_letter _ _) ?_
      rintro r h3 ⟨rfl, rfl⟩
      rw [lteI_sb t5]
      iterate 3 refine go_s rfl rfl rfl trivial ?_
      refine go_if (fun hc => ?_) (fun hc => ?_)
      · have eb : ltr (tb k) = 0 := nI_inj (by omega) (by omega) hc
        rw [eb] at e0 ⊢
        iterate 2 refine go_s rfl rfl rfl trivial ?_
        refine go_if (fun hc => ?_) (fun hc => ?_)
        · iterate 4 refine go_s rfl rfl rfl trivial ?_
          refine go_if (fun hc => ?_) (fun hc => ?_)
          · exact absurd rfl hc
          · iterate 3 refine go_s rfl rfl rfl trivial ?_
            rw [nI_1]
            have e1 : wst tb (k + 1) = ((wst tb k).1, false, (wst tb k).2.2) := e0
            have := ih (k + 1) I B μ (some (.int (nI 0))) hw ht (by rw [e1]; exact hm) (by omega)
            rw [show (wst tb (k + 1)).2.1 = false by rw [e1]] at this
            exact this
        · exact absurd rfl hc
      · have eb : ¬ ltr (tb k) = 0 := fun q => hc (by rw [q]; rfl)
        iterate 1 refine go_s rfl rfl rfl trivial ?_
        have fin : ∀ (I1 : Nat → Int32) (B1 : Nat → Nat → Int32) (μ1 : Nat → List Nat) (z : wS), wm B1 μ1 → mtap I1 B1 μ1 z → rwk I B μ I1 B1 μ1 → I1 0 = I 0 → 1 ≤ z.1 → z.1 ≤ 48 → z.2.2.2.2 (z.1 - 1) < 1000 → wst tb (k + 1) = addS z (ltr (tb k)) →
            Go m_Mo_readWords 79 [some (.ref 48), some (.int (bI (wst tb k).2.1)), some (.int (nI k)), some (.int (nI (ltr (tb k))))] [] (hM T I1 B1 S D) (fun r h' => r = none ∧ ∃ I' B' μ', h' = hM T I' B' S D ∧ I' 0 = 0 ∧ mtap I' B' μ' (wst tb n) ∧ rwk I B μ I' B' μ') := by
          intro I1 B1 μ1 z hw1 hm1 hr1 hI0 hz1 hz2 hz3 ez
          iterate 2 refine go_s rfl rfl rfl trivial ?_
          refine go_if (fun hc => ?_) (fun hc => ?_)
          · exact absurd hc ‹_›
          · iterate 5 refine go_s rfl rfl rfl trivial ?_
            refine go_if (fun hc => ?_) (fun hc => ?_)
            · refine l_rw96 hw1 hm1 hz1 hz2 hb hz3 fun B2 μ2 hw2 hm2 hr2 => ?_
              have := ih (k + 1) I1 B2 μ2 (some (.int (nI (ltr (tb k))))) hw2 (ht.keep hI0 ?_) (by rw [ez]; exact hm2) (by omega)
              · rw [show (wst tb (k + 1)).2.1 = true by rw [ez]; rfl] at this
                refine Go.mono this fun r h' h => ?_
                obtain ⟨g1, I3, B3, μ3, g2, g3, g4, g5⟩ := h
                exact ⟨g1, I3, B3, μ3, g2, g3, g4, (hr1.tr hr2).tr g5⟩
              · rw [(hr1.tr hr2).2.1 2 (by decide) (by decide) (by decide)]
            · exact absurd (by decide) hc
        cases hin : (wst tb k).2.1 with
        | true =>
          rw [hin] at fin
          obtain ⟨q1, q2⟩ := hl1 hin
          iterate 1 refine go_s rfl rfl rfl trivial ?_
          refine go_if (fun hc => ?_) (fun hc => ?_)
          · refine fin I B μ (wst tb k) hw hm (rwk.rf hw) rfl (by omega) (by omega) (by have := hsz ((wst tb k).1 - 1); omega) ?_
            rw [e0, stS, if_neg eb, if_pos hin]
          · exact absurd (by decide) hc
        | false =>
          rw [hin] at fin
          have q1 := hl2 hin
          have e1 : (3968 : Int32) + nI (wst tb k).1 = nI (3968 + (wst tb k).1) := by
            rw [show (3968 : Int32) = nI 3968 from rfl, nI_add]
          have c1 : (nI (3968 + (wst tb k).1)).toNatClampNeg = 3968 + (wst tb k).1 := nI_clamp (by omega)
          have c2 : (nI (wst tb k).1).toNatClampNeg = (wst tb k).1 := nI_clamp (by omega)
          iterate 1 refine go_s rfl rfl rfl trivial ?_
          refine go_if (fun hc => ?_) (fun hc => ?_)
          · exact absurd rfl hc
          · iterate 7 refine go_s rfl rfl rfl trivial ?_
            rw [hm.1, e1]
            refine go_s rfl rfl rfl ?_ ?_
            · exact vp_in_nI (by omega) (by omega)
            simp only [c1]
            iterate 5 refine go_s rfl rfl rfl trivial ?_
            rw [hm.1]
            refine go_s rfl rfl rfl ?_ ?_
            · exact vp_in_nI (by omega) (by omega)
            simp only [c2]
            iterate 5 refine go_s rfl rfl rfl trivial ?_
            rw [hm.1]
            refine go_s rfl rfl rfl ?_ ?_
            · exact vp_in_nI (by omega) (by omega)
            simp only [c2]
            iterate 6 refine go_s rfl rfl rfl trivial ?_
            rw [hm.1, nI_1]
            have k1 : ∀ i, i ≠ 1 → i ≠ 10 → i ≠ 11 → va_up (va_up (va_up B 1 (upd (B 1) (3968 + (wst tb k).1) 0)) 10 (upd (B 10) (wst tb k).1 (nI k))) 11 (upd (B 11) (wst tb k).1 0) i = B i := fun i a b c => by
              rw [va_up_ne _ _ c, va_up_ne _ _ b, va_up_ne _ _ a]
            have hw1 : wm (va_up (va_up (va_up B 1 (upd (B 1) (3968 + (wst tb k).1) 0)) 10 (upd (B 10) (wst tb k).1 (nI k))) 11 (upd (B 11) (wst tb k).1 0)) (va_up μ (3968 + (wst tb k).1) []) := wm_len0 hw (by omega) rfl rfl
            refine fin (va_up I 4 (nI ((wst tb k).1 + 1))) (va_up (va_up (va_up B 1 (upd (B 1) (3968 + (wst tb k).1) 0)) 10 (upd (B 10) (wst tb k).1 (nI k))) 11 (upd (B 11) (wst tb k).1 0)) (va_up μ (3968 + (wst tb k).1) []) (newS (wst tb k) k) hw1 ⟨va_up_self _ _ _, fun i hi => ?_⟩ ⟨fun i _ h4 => va_up_ne _ _ h4, fun i h2 h10 h11 => k1 i (by omega) h10 h11, hw1, fun a ha => va_up_ne _ _ (by omega)⟩ (va_up_ne _ _ (by decide)) (Nat.le_add_left 1 _) ?_ ?_ ?_
            · have hi' : i < (wst tb k).1 + 1 := hi
              by_cases ei : i = (wst tb k).1
              · subst ei
                refine ⟨?_, ?_, ?_⟩
                · rw [va_up_self]
                  exact (va_up_self _ _ _).symm
                · rw [va_up_ne _ _ (by decide), va_up_self, pk_us]
                  exact congrArg nI (va_up_self _ _ _).symm
                · rw [va_up_self, pk_us]
                  show _ = nI (va_up (wst tb k).2.2.2.2 (wst tb k).1 0 (wst tb k).1)
                  rw [va_up_self]
                  rfl
              · obtain ⟨y1, y2, y3⟩ := hm.2 i (by omega)
                refine ⟨?_, ?_, ?_⟩
                · rw [va_up_ne _ _ (by omega), y1]
                  exact (va_up_ne _ _ ei).symm
                · rw [va_up_ne _ _ (by decide), va_up_self, pk_un ei, y2]
                  exact congrArg nI (va_up_ne _ _ ei).symm
                · rw [va_up_self, pk_un ei, y3]
                  exact congrArg nI (va_up_ne _ _ ei).symm
            · show (wst tb k).1 + 1 ≤ 48
              omega
            · show va_up (wst tb k).2.2.2.2 (wst tb k).1 0 ((wst tb k).1 + 1 - 1) < 1000
              rw [Nat.add_sub_cancel, va_up_self]
              omega
            · rw [e0, stS, if_neg eb, if_neg (by rw [hin]; decide)]
theorem c_readWords {I : Nat → Int32} {B : Nat → Nat → Int32} {μ : Nat → List Nat} {tb : Nat → Nat} {n : Nat} (hw : wm B μ) (ht : mtape I B tb n) : Do m_Mo_readWords [.ref 48] (hM T I B S D) (fun r h' => r = none ∧ ∃ I' B' μ', h' = hM T I' B' S D ∧ I' 0 = 0 ∧ mtap I' B' μ' (wst tb n) ∧ rwk I B μ I' B' μ') := by
  iterate 7 refine go_s rfl rfl rfl trivial ?_
  refine Go.mono (l_rw9 (T := T) (D := D) (S := S) n 0 (va_up I 4 0) B μ none hw (ht.keep (va_up_ne _ _ (by decide)) rfl) ⟨va_up_self _ _ _, fun i hi => absurd hi (Nat.not_lt_zero i)⟩ (by omega)) fun r h' h => ?_
  obtain ⟨g1, I3, B3, μ3, g2, g3, g4, g5⟩ := h
  exact ⟨g1, I3, B3, μ3, g2, g3, g4, fun i h0 h4 => (g5.1 i h0 h4).trans (va_up_ne _ _ h4), g5.2⟩
end MREAD2
end
section
/-! ===== THE SPECIFICATION'S STATE, and the reference holding it ===== -/
noncomputable def ifp {α : Type} (P : Prop) (a b : α) : α := @ite α P (Classical.propDecidable P) a b
theorem ifp_t {α : Type} {P : Prop} (h : P) (a b : α) : ifp P a b = a := if_pos h
theorem ifp_f {α : Type} {P : Prop} (h : ¬ P) (a b : α) : ifp P a b = b := if_neg h
/-- the tape: bytes, how many -/
abbrev tx_P : Type := (Nat → Nat) × Nat
/-- stop words, rules of each language -/
abbrev tx_N : Type := (Nat → List (List Nat)) × (Nat → List (List Nat × List Nat))
/-- texts: how many, language (none: gone), field, how many words, words, where they begin, how long they are -/
abbrev tx_X : Type := Nat × (Nat → Option Nat) × (Nat → Nat) × (Nat → Nat) × (Nat → Nat → List Nat) × (Nat → Nat → Nat) × (Nat → Nat → Nat)
/-- answers: how many, texts, scores -/
abbrev tx_A : Type := Nat × (Nat → Nat) × (Nat → Int64)
/-- words that are like one -/
abbrev tx_L : Type := Nat × (Nat → List Nat)
abbrev tx_Z : Type := tx_P × tx_N × tx_X × tx_A × tx_L × List Nat
abbrev xnt (X : tx_X) : Nat := X.1
abbrev xlg (X : tx_X) : Nat → Option Nat := X.2.1
abbrev xfd (X : tx_X) : Nat → Nat := X.2.2.1
abbrev xcn (X : tx_X) : Nat → Nat := X.2.2.2.1
abbrev xwd (X : tx_X) : Nat → Nat → List Nat := X.2.2.2.2.1
abbrev xfr (X : tx_X) : Nat → Nat → Nat := X.2.2.2.2.2.1
abbrev xfu (X : tx_X) : Nat → Nat → Nat := X.2.2.2.2.2.2
abbrev zP (Z : tx_Z) : tx_P := Z.1
abbrev zN (Z : tx_Z) : tx_N := Z.2.1
abbrev zX (Z : tx_Z) : tx_X := Z.2.2.1
abbrev zA (Z : tx_Z) : tx_A := Z.2.2.2.1
abbrev zL (Z : tx_Z) : tx_L := Z.2.2.2.2.1
abbrev zS (Z : tx_Z) : List Nat := Z.2.2.2.2.2
/-- the stem that a word has in texts -/
noncomputable def nE (N : tx_N) (l : Nat) (w : List Nat) : Option (List Nat) := ifp (w ∈ N.1 l) none (some (stemF (N.2 l) w))
def nst (N : tx_N) : Nat := (N.1 0).length + (N.1 1).length + (N.1 2).length
noncomputable def xhere (X : tx_X) : Nat := cnt (fun t => xlg X t ≠ none) (xnt X)
/-- the reference's groups -/
def gP (P : tx_P) (I : Nat → Int32) (B : Nat → Nat → Int32) : Prop := mtape I B P.1 P.2
def gN (N : tx_N) (I : Nat → Int32) (B : Nat → Nat → Int32) (μ : Nat → List Nat) : Prop := I 3 = nI (nst N) ∧ nst N ≤ 2000 ∧ ∀ l, l < 3 → B 9 l = nI (N.2 l).length ∧ (N.2 l).length ≤ 8 ∧ rl μ l 0 (N.2 l).length = N.2 l ∧ ∀ w, stopQ (nst N) B μ (nI l) w ↔ w ∈ N.1 l
def gX (X : tx_X) (I : Nat → Int32) (B : Nat → Nat → Int32) (μ : Nat → List Nat) : Prop := mtx I B μ (xnt X) (xlg X) (xfd X) (xcn X) (xwd X) ∧ (∀ t, t < xnt X → ∀ p, p < xcn X t → B 6 (48 * t + p) = nI (xfr X t p) ∧ B 7 (48 * t + p) = nI (xfu X t p)) ∧ I 2 = nI (xnt X - xhere X)
def gA (A : tx_A) (I : Nat → Int32) (B : Nat → Nat → Int32) (S : Nat → Int64) : Prop := mans I B S A.1 A.2.1 A.2.2
def gL (L : tx_L) (I : Nat → Int32) (μ : Nat → List Nat) : Prop := I 10 = nI L.1 ∧ L.1 ≤ 1920 ∧ ∀ i, i < L.1 → μ (4112 + i) = L.2 i
def gS (s : List Nat) (I : Nat → Int32) (B : Nat → Nat → Int32) : Prop := mshown I B s
def tx_m (Z : tx_Z) (I : Nat → Int32) (B : Nat → Nat → Int32) (S : Nat → Int64) (μ : Nat → List Nat) : Prop := wm B μ ∧ gP (zP Z) I B ∧ gN (zN Z) I B μ ∧ gX (zX Z) I B μ ∧ gA (zA Z) I B S ∧ gL (zL Z) I μ ∧ gS (zS Z) I B
theorem gP.keep {P : tx_P} {I I' : Nat → Int32} {B B' : Nat → Nat → Int32} (h : gP P I B) (h0 : I' 0 = I 0) (h2 : B' 2 = B 2) : gP P I' B' := by
  obtain ⟨a1, a2, a3⟩ := h
  exact ⟨h0.trans a1, a2, fun j hj => by rw [h2]; exact a3 j hj⟩
theorem gN.keep {N : tx_N} {I I' : Nat → Int32} {B B' : Nat → Nat → Int32} {μ μ' : Nat → List Nat} (h : gN N I B μ) (hI : I' 3 = I 3) (hB8 : B' 8 = B 8) (hB9 : B' 9 = B 9) (hm : ∀ a, 1920 ≤ a → a < 3968 → μ' a = μ a) : gN N I' B' μ' := by
  obtain ⟨h1, h2, h3⟩ := h
  refine ⟨hI.trans h1, h2, fun l hl => ?_⟩
  obtain ⟨k1, k2, k3, k4⟩ := h3 l hl
  refine ⟨by rw [hB9]; exact k1, k2, ?_, fun w => ?_⟩
  · rw [rl_keep hl (fun a h1 h2 => hm a (by omega) h2) _ 0 (by omega)]
    exact k3
  · rw [← k4 w]
    constructor
    · rintro ⟨k, k1, k2, k3⟩
      exact ⟨k, k1, by rw [← hB8]; exact k2, by rw [← hm (1920 + k) (by omega) (by omega)]; exact k3⟩
    · rintro ⟨k, k1, k2, k3⟩
      exact ⟨k, k1, by rw [hB8]; exact k2, by rw [hm (1920 + k) (by omega) (by omega)]; exact k3⟩
theorem gN.env {N : tx_N} {I : Nat → Int32} {B : Nat → Nat → Int32} {μ : Nat → List Nat} (h : gN N I B μ) : menv I B μ (nE N) := by
  obtain ⟨h1, h2, h3⟩ := h
  refine ⟨nst N, fun l => (N.2 l).length, h1, h2, fun l hl => ⟨(h3 l hl).1, (h3 l hl).2.1⟩, fun l hl w => ⟨fun q => ?_, fun q => ?_⟩⟩
  · exact ifp_t (((h3 l hl).2.2.2 w).mp q) _ _
  · rw [(h3 l hl).2.2.1]
    exact ifp_f (fun q2 => q (((h3 l hl).2.2.2 w).mpr q2)) _ _
theorem gX.keep {X : tx_X} {I I' : Nat → Int32} {B B' : Nat → Nat → Int32} {μ μ' : Nat → List Nat} (h : gX X I B μ) (h1 : I' 1 = I 1) (h2 : I' 2 = I 2) (hB : ∀ i, 3 ≤ i → i ≤ 7 → B' i = B i) (hm : ∀ a, a < 1920 → μ' a = μ a) : gX X I' B' μ' := by
  obtain ⟨⟨a1, a2, a3⟩, a4, a5⟩ := h
  refine ⟨⟨h1.trans a1, a2, fun t ht => ?_⟩, fun t ht p hp => ?_, h2.trans a5⟩
  · obtain ⟨k1, k2, k3, k4, k5, k6, k7⟩ := a3 t ht
    refine ⟨by rw [hB 3 (by omega) (by omega)]; exact k1, k2, by rw [hB 4 (by omega) (by omega)]; exact k3, k4, by rw [hB 5 (by omega) (by omega)]; exact k5, k6, fun p hp => ?_⟩
    rw [hm _ (by omega)]
    exact k7 p hp
  · rw [hB 6 (by omega) (by omega), hB 7 (by omega) (by omega)]
    exact a4 t ht p hp
theorem gA.keep {A : tx_A} {I I' : Nat → Int32} {B B' : Nat → Nat → Int32} {S : Nat → Int64} (h : gA A I B S) (h9 : I' 9 = I 9) (hB : B' 16 = B 16) : gA A I' B' S := by
  obtain ⟨a1, a2, a3⟩ := h
  exact ⟨h9.trans a1, a2, fun i hi => by rw [hB]; exact a3 i hi⟩
theorem gL.keep {L : tx_L} {I I' : Nat → Int32} {μ μ' : Nat → List Nat} (h : gL L I μ) (hI : I' 10 = I 10) (hm : ∀ a, 4112 ≤ a → a < 6032 → μ' a = μ a) : gL L I' μ' := by
  obtain ⟨a1, a2, a3⟩ := h
  exact ⟨hI.trans a1, a2, fun i hi => by rw [hm _ (by omega) (by omega)]; exact a3 i hi⟩
theorem gS.keep {s : List Nat} {I I' : Nat → Int32} {B B' : Nat → Nat → Int32} (h : gS s I B) (hI : I' 11 = I 11) (hB : B' 18 = B 18) : gS s I' B' := by
  obtain ⟨a1, a2, a3⟩ := h
  exact ⟨hI.trans a1, a2, fun i hi => by rw [hB]; exact a3 i hi⟩
/-- only words at places in use for a moment have changed -/
theorem tx_m.keepc {Z : tx_Z} {I : Nat → Int32} {B B' : Nat → Nat → Int32} {S : Nat → Int64} {μ μ' : Nat → List Nat} (h : tx_m Z I B S μ) (hs : wsame B B') (hw : wm B' μ') (hm : ∀ a, a < 3968 ∨ (4112 ≤ a ∧ a < 6032) → μ' a = μ a) : tx_m Z I B' S μ' := by
  obtain ⟨h1, h2, h3, h4, h5, h6, h7⟩ := h
  exact ⟨hw, h2.keep rfl (hs 2 (by omega)), h3.keep rfl (hs 8 (by omega)) (hs 9 (by omega)) (fun a _ b => hm a (Or.inl b)), h4.keep rfl rfl (fun i a _ => hs i (by omega)) (fun a b => hm a (Or.inl (by omega))), h5.keep rfl (hs 16 (by omega)), h6.keep rfl (fun a x y => hm a (Or.inr ⟨x, y⟩)), h7.keep rfl (hs 18 (by omega))⟩
/-! ===== the reference: remove, texts, place, word, at, answer, score, stems ===== -/
def isT (X : tx_X) (x : Int32) : Prop := 0 ≤ x ∧ x < nI (xnt X) ∧ xlg X x.toNatClampNeg ≠ none
theorem isT_nat {X : tx_X} {x : Int32} (h : isT X x) (h40 : xnt X ≤ 40) : ∃ t, t < xnt X ∧ x = nI t ∧ xlg X t ≠ none := by
  obtain ⟨h1, h2, h3⟩ := h
  obtain ⟨t, ht, rfl⟩ := nI_of (Int32.not_lt.mpr h1)
  rw [nI_clamp ht] at h3
  exact ⟨t, (nI_ltI ht (by omega)).mp h2, rfl, h3⟩
theorem isT_of {X : tx_X} {t : Nat} (h40 : xnt X ≤ 40) (ht : t < xnt X) (hl : xlg X t ≠ none) : isT X (nI t) := by
  refine ⟨Int32.not_lt.mp (nI_pos (by omega)), (nI_ltI (by omega) (by omega)).mpr ht, ?_⟩
  rw [nI_clamp (by omega)]
  exact hl
theorem lgI_neg {o : Option Nat} (ho : ∀ k, o = some k → k < 3) : lgI o < 0 ↔ o = none := by
  cases o with
  | none => exact ⟨fun _ => rfl, fun _ => by decide⟩
  | some k => exact ⟨fun q => absurd q (nI_pos (by have := ho k rfl; omega)), fun q => by cases q⟩
def xrm (X : tx_X) (t : Nat) : tx_X := (X.1, va_up X.2.1 t none, X.2.2)
noncomputable def spRemove (Z : tx_Z) (x : Int32) : Int32 × tx_Z := ifp (isT (zX Z) x) (1, (zP Z, zN Z, xrm (zX Z) x.toNatClampNeg, Z.2.2.2)) (-1, Z)
noncomputable def spPlace (Z : tx_Z) (t p k : Int32) : Int32 := ifp (isT (zX Z) t ∧ 0 ≤ p ∧ p < nI (xcn (zX Z) t.toNatClampNeg) ∧ 0 ≤ k ∧ k ≤ 1) (ifp (k = 0) (nI (xfr (zX Z) t.toNatClampNeg p.toNatClampNeg)) (nI (xfu (zX Z) t.toNatClampNeg p.toNatClampNeg))) (-1)
noncomputable def spWord (Z : tx_Z) (x : Int32) : Int32 × tx_Z := ifp (0 ≤ x ∧ x < nI (zL Z).1) (nI ((zL Z).2 x.toNatClampNeg).length, (zP Z, zN Z, zX Z, zA Z, zL Z, (zL Z).2 x.toNatClampNeg)) (-2, Z)
noncomputable def spStems (Z : tx_Z) (x : Int32) : Int32 := ifp (isL x) (nI (sumN (stT (nE (zN Z)) (xlg (zX Z)) (xcn (zX Z)) (xwd (zX Z)) x.toNatClampNeg) (xnt (zX Z)))) (-1)
theorem cnt_del {P P' : Nat → Prop} {t : Nat} (h : ∀ j, P' j ↔ P j ∧ j ≠ t) (hp : P t) : ∀ n, (t < n → cnt P' n + 1 = cnt P n) ∧ (n ≤ t → cnt P' n = cnt P n)
  | 0 => ⟨fun q => absurd q (Nat.not_lt_zero _), fun _ => rfl⟩
  | n + 1 => by
    obtain ⟨i1, i2⟩ := cnt_del h hp n
    refine ⟨fun q => ?_, fun q => ?_⟩
    · by_cases e : t = n
      · subst e
        rw [cnt_t hp, cnt_f (fun q => ((h t).mp q).2 rfl), i2 (Nat.le_refl _)]
      · by_cases q1 : P n
        · rw [cnt_t q1, cnt_t ((h n).mpr ⟨q1, fun q => e q.symm⟩), i1 (by omega)]
        · rw [cnt_f q1, cnt_f (fun q => q1 ((h n).mp q).1), i1 (by omega)]
    · by_cases q1 : P n
      · rw [cnt_t q1, cnt_t ((h n).mpr ⟨q1, fun q => by omega⟩), i2 (by omega)]
      · rw [cnt_f q1, cnt_f (fun q => q1 ((h n).mp q).1), i2 (by omega)]
section MSIMPLE
variable {T : Nat → am_C} {D : List am_C} {I : Nat → Int32} {B : Nat → Nat → Int32} {S : Nat → Int64} {μ : Nat → List Nat}
theorem c_isText {X : tx_X} (hX : gX X I B μ) (x : Int32) : Do m_Mo_isText [.ref 48, .int x] (hM T I B S D) (fun r h' => r = some (.int (b01 (isT X x))) ∧ h' = hM T I B S D) := by
  obtain ⟨⟨x1, x2, x3⟩, -, -⟩ := hX
  iterate 2 refine go_s rfl rfl rfl trivial ?_
  refine go_if (fun h1 => ?_) (fun h1 => ?_)
  · iterate 1 refine go_s rfl rfl rfl trivial ?_
    refine go_r rfl rfl rfl (Or.inl rfl) ⟨?_, rfl⟩
    rw [b01_f (fun q => absurd h1 (Int32.not_lt.mpr q.1))]
  · iterate 3 refine go_s rfl rfl rfl trivial ?_
    rw [x1]
    iterate 1 refine go_s rfl rfl rfl trivial ?_
    refine go_if (fun h2 => ?_) (fun h2 => ?_)
    · iterate 1 refine go_s rfl rfl rfl trivial ?_
      refine go_r rfl rfl rfl (Or.inl rfl) ⟨?_, rfl⟩
      rw [b01_f (fun q => absurd q.2.1 (Int32.not_lt.mpr h2))]
    · obtain ⟨t, ht, rfl⟩ := nI_of h1
      have htn : t < xnt X := (nI_ltI ht (by omega)).mp (Int32.not_le.mp h2)
      obtain ⟨k1, k2, -⟩ := x3 t htn
      have ct : (nI t).toNatClampNeg = t := nI_clamp (by omega)
      iterate 3 refine go_s rfl rfl rfl trivial ?_
      refine go_s rfl rfl rfl ?_ ?_
      · exact vp_in_nI (by omega) (by omega)
      simp only [ct, k1]
      iterate 1 refine go_s rfl rfl rfl trivial ?_
      refine go_if (fun hc => ?_) (fun hc => ?_)
      · iterate 1 refine go_s rfl rfl rfl trivial ?_
        refine go_r rfl rfl rfl (Or.inl rfl) ⟨?_, rfl⟩
        rw [b01_f (fun q => q.2.2 (by rw [ct]; exact (lgI_neg k2).mp hc))]
      · iterate 2 refine go_s rfl rfl rfl trivial ?_
        refine go_r rfl rfl rfl (Or.inr rfl) ⟨?_, rfl⟩
        rw [b01_t (isT_of x2 htn (fun q => hc ((lgI_neg k2).mpr q)))]
theorem c_remove {Z : tx_Z} (hZ : tx_m Z I B S μ) (x : Int32) : Do m_Mo_remove [.ref 48, .int x] (hM T I B S D) (fun r h' => r = some (.int (spRemove Z x).1) ∧ ∃ I' B', h' = hM T I' B' S D ∧ tx_m (spRemove Z x).2 I' B' S μ) := by
  obtain ⟨h1, h2, h3, h4, h5, h6, h7⟩ := id hZ
  iterate 2 refine go_s rfl rfl rfl trivial ?_
  refine go_c rfl rfl rfl (c_isText h4 x) ?_
  rintro r h0 ⟨rfl, rfl⟩
  iterate 1 refine go_s rfl rfl rfl trivial ?_
  refine go_if (fun hc => ?_) (fun hc => ?_)
  · have hq : isT (zX Z) x := Classical.not_not.mp fun q => hc (b01_f q)
    obtain ⟨t, ht, rfl, hl⟩ := isT_nat hq h4.1.2.1
    have ct : (nI t).toNatClampNeg = t := nI_clamp (by have := h4.1.2.1; omega)
    rw [spRemove, ifp_t hq, ct]
    iterate 4 refine go_s rfl rfl rfl trivial ?_
    refine go_s rfl rfl rfl ?_ ?_
    · exact vp_in_nI (by have := h4.1.2.1; omega) (by omega)
    simp only [ct]
    iterate 7 refine go_s rfl rfl rfl trivial ?_
    have e1 : ∀ j, va_up (xlg (zX Z)) t none j ≠ none ↔ xlg (zX Z) j ≠ none ∧ j ≠ t := by
      intro j
      by_cases e : j = t
      · subst e; rw [va_up_self]; simp
      · rw [va_up_ne _ _ e]; simp [e]
    have e2 := (cnt_del (P := fun t => xlg (zX Z) t ≠ none) (P' := fun j => va_up (xlg (zX Z)) t none j ≠ none) e1 hl (xnt (zX Z))).1 ht
    have e3 := cnt_le (fun t => xlg (zX Z) t ≠ none) (xnt (zX Z))
    refine go_r rfl rfl rfl trivial ⟨rfl, va_up I 2 (I 2 + 1), va_up B 3 (upd (B 3) t (-1)), rfl, ?_, ?_, ?_, ⟨⟨?_, h4.1.2.1, fun j hj => ?_⟩, fun j hj p hp => ?_, ?_⟩, ?_, ?_, ?_⟩
    · exact h1.keep2 rfl rfl
    · exact h2.keep rfl rfl
    · exact h3.keep rfl rfl rfl (fun _ _ _ => rfl)
    · rw [va_up_ne _ _ (by decide)]; exact h4.1.1
    · obtain ⟨k1, k2, k3, k4, k5, k6, k7⟩ := h4.1.2.2 j hj
      refine ⟨?_, fun l hl => ?_, k3, k4, k5, k6, k7⟩
      · show va_up B 3 (upd (B 3) t (-1)) 3 j = lgI (va_up (xlg (zX Z)) t none j)
        rw [va_up_self]
        by_cases e : j = t
        · subst e; rw [pk_us, va_up_self]; rfl
        · rw [pk_un e, va_up_ne _ _ e]; exact k1
      · have hl' : va_up (xlg (zX Z)) t none j = some l := hl
        by_cases e : j = t
        · subst e; rw [va_up_self] at hl'; cases hl'
        · rw [va_up_ne _ _ e] at hl'; exact k2 l hl'
    · exact h4.2.1 j hj p hp
    · rw [va_up_self, h4.2.2, nI_1]
      congr 1
      show xnt (zX Z) - xhere (zX Z) + 1 = xnt (zX Z) - cnt (fun j => va_up (xlg (zX Z)) t none j ≠ none) (xnt (zX Z))
      rw [xhere]
      omega
    · exact h5.keep rfl rfl
    · exact h6.keep rfl (fun _ _ _ => rfl)
    · exact h7.keep rfl rfl
  · have hq : ¬ isT (zX Z) x := fun q => hc (by rw [b01_t q]; decide)
    rw [spRemove, ifp_f hq]
    iterate 1 refine go_s rfl rfl rfl trivial ?_
    exact go_r rfl rfl rfl trivial ⟨rfl, I, B, rfl, hZ⟩
theorem c_texts {X : tx_X} (hX : gX X I B μ) : Do m_Mo_texts [.ref 48] (hM T I B S D) (fun r h' => r = some (.int (nI (xhere X))) ∧ h' = hM T I B S D) := by
  obtain ⟨⟨x1, x2, x3⟩, -, x5⟩ := hX
  iterate 5 refine go_s rfl rfl rfl trivial ?_
  refine go_r rfl rfl rfl trivial ⟨?_, rfl⟩
  have e3 := cnt_le (fun t => xlg X t ≠ none) (xnt X)
  rw [x1, x5, pk_sub (by omega)]
  congr 3
  rw [xhere]
  omega
theorem c_place {Z : tx_Z} (hX : gX (zX Z) I B μ) (x p k : Int32) : Do m_Mo_place [.ref 48, .int x, .int p, .int k] (hM T I B S D) (fun r h' => r = some (.int (spPlace Z x p k)) ∧ h' = hM T I B S D) := by
  obtain ⟨⟨x1, x2, x3⟩, x4, x5⟩ := id hX
  have bad : ∀ {m pc : Nat}, ¬ (isT (zX Z) x ∧ 0 ≤ p ∧ p < nI (xcn (zX Z) x.toNatClampNeg) ∧ 0 ≤ k ∧ k ≤ 1) → spPlace Z x p k = -1 := fun h => ifp_f h _ _
  iterate 2 refine go_s rfl rfl rfl trivial ?_
  refine go_c rfl rfl rfl (c_isText hX x) ?_
  rintro r h0 ⟨rfl, rfl⟩
  iterate 1 refine go_s rfl rfl rfl trivial ?_
  refine go_if (fun hc => ?_) (fun hc => ?_)
  · iterate 1 refine go_s rfl rfl rfl trivial ?_
    refine go_r rfl rfl rfl trivial ⟨?_, rfl⟩
    rw [spPlace, ifp_f (fun q => b01_eq0.mp hc q.1)]
  · have hq : isT (zX Z) x := Classical.not_not.mp fun q => hc (b01_f q)
    obtain ⟨t, ht, rfl, hl⟩ := isT_nat hq x2
    have ct : (nI t).toNatClampNeg = t := nI_clamp (by omega)
    obtain ⟨k1, k2, k3, k4, k5, k6, k7⟩ := x3 t ht
    iterate 2 refine go_s rfl rfl rfl trivial ?_
    refine go_if (fun h1 => ?_) (fun h1 => ?_)
    · iterate 1 refine go_s rfl rfl rfl trivial ?_
      refine go_r rfl rfl rfl trivial ⟨?_, rfl⟩
      rw [spPlace, ifp_f (fun q => absurd h1 (Int32.not_lt.mpr q.2.1))]
    · obtain ⟨j, hj, rfl⟩ := nI_of h1
      have cj : (nI j).toNatClampNeg = j := nI_clamp (by omega)
      iterate 4 refine go_s rfl rfl rfl trivial ?_
      refine go_s rfl rfl rfl ?_ ?_
      · exact vp_in_nI (by omega) (by omega)
      simp only [ct, k5]
      iterate 1 refine go_s rfl rfl rfl trivial ?_
      refine go_if (fun h2 => ?_) (fun h2 => ?_)
      · iterate 1 refine go_s rfl rfl rfl trivial ?_
        refine go_r rfl rfl rfl trivial ⟨?_, rfl⟩
        rw [spPlace, ct, ifp_f (fun q => absurd q.2.2.1 (Int32.not_lt.mpr h2))]
      · have hjc : j < xcn (zX Z) t := (nI_ltI hj (by omega)).mp (Int32.not_le.mp h2)
        have e1 : (48 : Int32) * nI t + nI j = nI (48 * t + j) := by
          rw [show (48 : Int32) = nI 48 from rfl, pk_mul, nI_add]
        have c1 : (nI (48 * t + j)).toNatClampNeg = 48 * t + j := nI_clamp (by omega)
        obtain ⟨y1, y2⟩ := x4 t ht j hjc
        iterate 2 refine go_s rfl rfl rfl trivial ?_
        refine go_if (fun h3 => ?_) (fun h3 => ?_)
        · iterate 1 refine go_s rfl rfl rfl trivial ?_
          refine go_r rfl rfl rfl trivial ⟨?_, rfl⟩
          rw [spPlace, ifp_f (fun q => absurd h3 (Int32.not_lt.mpr q.2.2.2.1))]
        · iterate 3 refine go_s rfl rfl rfl trivial ?_
          refine go_if (fun h4 => ?_) (fun h4 => ?_)
          · have hall : isT (zX Z) (nI t) ∧ 0 ≤ nI j ∧ nI j < nI (xcn (zX Z) (nI t).toNatClampNeg) ∧ 0 ≤ k ∧ k ≤ 1 := ⟨hq, Int32.not_lt.mp h1, by rw [ct]; exact Int32.not_le.mp h2, Int32.not_lt.mp h3, h4⟩
            rw [spPlace, ifp_t hall, ct, cj]
            iterate 2 refine go_s rfl rfl rfl trivial ?_
            refine go_if (fun hc => ?_) (fun hc => ?_)
            · iterate 7 refine go_s rfl rfl rfl trivial ?_
              rw [e1]
              refine go_s rfl rfl rfl ?_ ?_
              · exact vp_in_nI (by omega) (by omega)
              simp only [c1, y2]
              refine go_r rfl rfl rfl trivial ⟨?_, rfl⟩
              rw [ifp_f hc]
            · iterate 7 refine go_s rfl rfl rfl trivial ?_
              rw [e1]
              refine go_s rfl rfl rfl ?_ ?_
              · exact vp_in_nI (by omega) (by omega)
              simp only [c1, y1]
              iterate 1 refine go_s rfl rfl rfl trivial ?_
              refine go_r rfl rfl rfl trivial ⟨?_, rfl⟩
              rw [ifp_t (Classical.not_not.mp hc)]
          · iterate 1 refine go_s rfl rfl rfl trivial ?_
            refine go_r rfl rfl rfl trivial ⟨?_, rfl⟩
            rw [spPlace, ifp_f (fun q => h4 q.2.2.2.2)]
theorem c_word {Z : tx_Z} (hZ : tx_m Z I B S μ) (x : Int32) : Do m_Mo_word [.ref 48, .int x] (hM T I B S D) (fun r h' => r = some (.int (spWord Z x).1) ∧ ∃ I' B', h' = hM T I' B' S D ∧ tx_m (spWord Z x).2 I' B' S μ) := by
  obtain ⟨h1, h2, h3, h4, h5, h6, h7⟩ := id hZ
  obtain ⟨l1, l2, l3⟩ := id h6
  iterate 2 refine go_s rfl rfl rfl trivial ?_
  refine go_if (fun q1 => ?_) (fun q1 => ?_)
  · iterate 1 refine go_s rfl rfl rfl trivial ?_
    rw [spWord, ifp_f (fun q => absurd q1 (Int32.not_lt.mpr q.1))]
    exact go_r rfl rfl rfl trivial ⟨rfl, I, B, rfl, hZ⟩
  · iterate 3 refine go_s rfl rfl rfl trivial ?_
    rw [l1]
    iterate 1 refine go_s rfl rfl rfl trivial ?_
    refine go_if (fun q2 => ?_) (fun q2 => ?_)
    · iterate 1 refine go_s rfl rfl rfl trivial ?_
      rw [spWord, ifp_f (fun q => absurd q.2 (Int32.not_lt.mpr q2))]
      exact go_r rfl rfl rfl trivial ⟨rfl, I, B, rfl, hZ⟩
    · rw [spWord, ifp_t ⟨Int32.not_lt.mp q1, Int32.not_le.mp q2⟩]
      obtain ⟨j, hj, rfl⟩ := nI_of q1
      have hjl : j < (zL Z).1 := (nI_ltI hj (by omega)).mp (Int32.not_le.mp q2)
      have cj : (nI j).toNatClampNeg = j := nI_clamp (by omega)
      rw [cj]
      iterate 4 refine go_s rfl rfl rfl trivial ?_
      rw [show (4112 : Int32) + nI j = nI (4112 + j) by rw [show (4112 : Int32) = nI 4112 from rfl, nI_add]]
      refine go_c rfl rfl rfl (c_show h1 (a := 4112 + j) (by omega)) ?_
      rintro r h0 ⟨rfl, B1, rfl, hB1, hs1⟩
      rw [l3 j hjl] at hs1 ⊢
      iterate 1 refine go_s rfl rfl rfl trivial ?_
      refine go_r rfl rfl rfl trivial ⟨rfl, _, B1, rfl, h1.keep2 (hB1 0 (by decide)) (hB1 1 (by decide)), h2.keep rfl (hB1 2 (by decide)), h3.keep rfl (hB1 8 (by decide)) (hB1 9 (by decide)) (fun _ _ _ => rfl), h4.keep rfl rfl (fun i a b => hB1 i (by omega)) (fun _ _ => rfl), h5.keep rfl (hB1 16 (by decide)), h6.keep rfl (fun _ _ _ => rfl), hs1⟩
theorem c_stems_Z {Z : tx_Z} (hZ : tx_m Z I B S μ) (x : Int32) : Do m_Mo_stems [.ref 48, .int x] (hM T I B S D) (fun r h' => r = some (.int (spStems Z x)) ∧ ∃ B' μ', h' = hM T I B' S D ∧ tx_m Z I B' S μ') := by
  obtain ⟨h1, h2, h3, h4, h5, h6, h7⟩ := id hZ
  refine (c_stems h1 h3.env h4.1 x).mono fun r h' h => ?_
  obtain ⟨g1, B1, μ1, g2, g3⟩ := h
  refine ⟨?_, B1, μ1, g2, hZ.keepc g3.1 g3.2.1 (fun a ha => g3.2.2 a (by omega))⟩
  rcases g1 with ⟨g4, rfl⟩ | ⟨l, g4, rfl, rfl⟩
  · rw [spStems, ifp_f g4]
  · have q : isL (nI l) := ⟨Int32.not_lt.mp (nI_pos (by omega)), (nI_ltI (a := l) (b := 3) (by omega) (by omega)).mpr g4⟩
    rw [spStems, ifp_t q, nI_clamp (by omega)]
end MSIMPLE
end
section
/-! ===== the reference: stop, stem, ending ===== -/
def zw (Z : tx_Z) : wS := wst (zP Z).1 (zP Z).2
def z0 (Z : tx_Z) : tx_Z := (((zP Z).1, 0), Z.2)
noncomputable def stpF (N : tx_N) (l : Nat) (ws : Nat → List Nat) : Nat → tx_N × Nat
  | 0 => (N, 0)
  | k + 1 => ifp (ws k ∈ (stpF N l ws k).1.1 l) (stpF N l ws k) ((va_up (stpF N l ws k).1.1 l ((stpF N l ws k).1.1 l ++ [ws k]), (stpF N l ws k).1.2), (stpF N l ws k).2 + 1)
noncomputable def spStop (Z : tx_Z) (x : Int32) : Int32 × tx_Z := ifp (isL x) (nI (stpF (zN Z) x.toNatClampNeg (zw Z).2.2.1 (zw Z).1).2, (((zP Z).1, 0), (stpF (zN Z) x.toNatClampNeg (zw Z).2.2.1 (zw Z).1).1, Z.2.2)) (-1, Z)
noncomputable def spStem (Z : tx_Z) (x : Int32) : Int32 × tx_Z := ifp (isL x) (if (zw Z).1 = 0 then (-2, z0 Z) else (nI (stemF ((zN Z).2 x.toNatClampNeg) ((zw Z).2.2.1 0)).length, (((zP Z).1, 0), zN Z, zX Z, zA Z, zL Z, stemF ((zN Z).2 x.toNatClampNeg) ((zw Z).2.2.1 0)))) (-1, Z)
noncomputable def spEnding (Z : tx_Z) (x : Int32) : Int32 × tx_Z := ifp (isL x) (if (zw Z).1 = 0 ∨ 2 < (zw Z).1 then (-2, z0 Z) else if ((zN Z).2 x.toNatClampNeg).length = 8 then (-3, z0 Z) else
  (nI (((zN Z).2 x.toNatClampNeg).length + 1), (((zP Z).1, 0), ((zN Z).1, va_up (zN Z).2 x.toNatClampNeg ((zN Z).2 x.toNatClampNeg ++ [((zw Z).2.2.1 0, if (zw Z).1 = 2 then (zw Z).2.2.1 1 else [])])), Z.2.2))) (-1, Z)
theorem isL_of {l : Nat} (h : l < 3) : isL (nI l) := ⟨Int32.not_lt.mp (nI_pos (by omega)), (nI_ltI (a := l) (b := 3) (by omega) (by omega)).mpr h⟩
theorem nst_up {N : tx_N} {l : Nat} (hl : l < 3) (w : List Nat) : nst (va_up N.1 l (N.1 l ++ [w]), N.2) = nst N + 1 := by
  simp only [nst]
  rcases (by omega : l = 0 ∨ l = 1 ∨ l = 2) with rfl | rfl | rfl
  · rw [va_up_self, va_up_ne _ _ (by decide), va_up_ne _ _ (by decide), List.length_append, List.length_singleton]; omega
  · rw [va_up_ne _ _ (by decide), va_up_self, va_up_ne _ _ (by decide), List.length_append, List.length_singleton]; omega
  · rw [va_up_ne _ _ (by decide), va_up_ne _ _ (by decide), va_up_self, List.length_append, List.length_singleton]; omega
theorem gN_add {N : tx_N} {I I' : Nat → Int32} {B B' : Nat → Nat → Int32} {μ μ' : Nat → List Nat} {l : Nat} {w : List Nat} (h : gN N I B μ) (hl : l < 3) (hr : nst N + 1 ≤ 2000) (hI : I' 3 = nI (nst N + 1)) (hB8 : B' 8 = upd (B 8) (nst N) (nI l)) (hB9 : B' 9 = B 9) (hm : ∀ a, 1920 ≤ a → a < 3968 → a ≠ 1920 + nst N → μ' a = μ a) (hw : μ' (1920 + nst N) = w) : gN (va_up N.1 l (N.1 l ++ [w]), N.2) I' B' μ' := by
  obtain ⟨h1, h2, h3⟩ := h
  refine ⟨by rw [nst_up hl]; exact hI, by rw [nst_up hl]; exact hr, fun l' hl' => ?_⟩
  obtain ⟨k1, k2, k3, k4⟩ := h3 l' hl'
  refine ⟨by rw [hB9]; exact k1, k2, ?_, fun v => ?_⟩
  · rw [rl_keep hl' (fun a h1 h2 => hm a (by omega) h2 (by omega)) _ 0 (by have := k2; show 0 + (N.2 l').length ≤ 8; omega)]
    exact k3
  · rw [nst_up hl]
    show _ ↔ v ∈ va_up N.1 l (N.1 l ++ [w]) l'
    have e : stopQ (nst N + 1) B' μ' (nI l') v ↔ (stopQ (nst N) B μ (nI l') v ∨ (l' = l ∧ v = w)) := by
      constructor
      · rintro ⟨k, k1, k2, k3⟩
        by_cases ek : k = nst N
        · subst ek
          right
          rw [hB8, pk_us] at k2
          exact ⟨((nI_inj (by omega) (by omega) k2)).symm, by rw [← k3]; exact hw⟩
        · left
          refine ⟨k, by omega, ?_, ?_⟩
          · rw [hB8, pk_un ek] at k2; exact k2
          · rw [hm _ (by omega) (by omega) (by omega)] at k3; exact k3
      · rintro (⟨k, k1, k2, k3⟩ | ⟨rfl, rfl⟩)
        · exact ⟨k, by omega, by rw [hB8, pk_un (by omega)]; exact k2, by rw [hm _ (by omega) (by omega) (by omega)]; exact k3⟩
        · exact ⟨nst N, by omega, by rw [hB8, pk_us], hw⟩
    rw [e, k4 v]
    by_cases el : l' = l
    · subst el
      rw [va_up_self, List.mem_append, List.mem_singleton]
      simp
    · rw [va_up_ne _ _ el]
      simp [el]
theorem stpF_le (N : tx_N) {l : Nat} (hl : l < 3) (ws : Nat → List Nat) : ∀ k, nst (stpF N l ws k).1 = nst N + (stpF N l ws k).2 ∧ (stpF N l ws k).2 ≤ k
  | 0 => ⟨rfl, Nat.le_refl _⟩
  | k + 1 => by
    obtain ⟨i1, i2⟩ := stpF_le N hl ws k
    rw [stpF]
    by_cases q : ws k ∈ (stpF N l ws k).1.1 l
    · rw [ifp_t q]; exact ⟨i1, by omega⟩
    · rw [ifp_f q]
      refine ⟨?_, by show (stpF N l ws k).2 + 1 ≤ k + 1; omega⟩
      rw [nst_up (N := (stpF N l ws k).1) hl, i1]
      rfl
theorem nE_none {N : tx_N} {l : Nat} {w : List Nat} : nE N l w = none ↔ w ∈ N.1 l := by
  rw [nE]
  by_cases q : w ∈ N.1 l
  · rw [ifp_t q]; exact ⟨fun _ => q, fun _ => rfl⟩
  · rw [ifp_f q]; exact ⟨fun h => by simp at h, fun h => absurd h q⟩
section MSTOP
variable {T : Nat → am_C} {D : List am_C} {S : Nat → Int64}
theorem l_rdZ {Z : tx_Z} {I I' : Nat → Int32} {B B' : Nat → Nat → Int32} {μ μ' : Nat → List Nat} (hZ : tx_m Z I B S μ) (h0 : I' 0 = 0) (hr : rwk I B μ I' B' μ') : tx_m (z0 Z) I' B' S μ' := by
  obtain ⟨h1, h2, h3, h4, h5, h6, h7⟩ := hZ
  obtain ⟨r1, r2, r3, r4⟩ := hr
  exact ⟨r3, ⟨h0, by show 0 ≤ 96; omega, fun j hj => absurd hj (Nat.not_lt_zero j)⟩, h3.keep (r1 3 (by decide) (by decide)) (r2 8 (by decide) (by decide) (by decide)) (r2 9 (by decide) (by decide) (by decide)) (fun a _ b => r4 a (Or.inl b)), h4.keep (r1 1 (by decide) (by decide)) (r1 2 (by decide) (by decide)) (fun i a b => r2 i (by omega) (by omega) (by omega)) (fun a b => r4 a (Or.inl (by omega))), h5.keep (r1 9 (by decide) (by decide)) (r2 16 (by decide) (by decide) (by decide)), h6.keep (r1 10 (by decide) (by decide)) (fun a b c => r4 a (Or.inr (by omega))), h7.keep (r1 11 (by decide) (by decide)) (r2 18 (by decide) (by decide) (by decide))⟩
theorem mtap.keep {I I' : Nat → Int32} {B B' : Nat → Nat → Int32} {μ μ' : Nat → List Nat} {z : wS} (h : mtap I B μ z) (hz : z.1 ≤ 48) (h4 : I' 4 = I 4) (h10 : B' 10 = B 10) (h11 : B' 11 = B 11) (hm : ∀ a, 3968 ≤ a → a < 4016 → μ' a = μ a) : mtap I' B' μ' z := by
  obtain ⟨a1, a2⟩ := h
  refine ⟨h4.trans a1, fun i hi => ?_⟩
  obtain ⟨b1, b2, b3⟩ := a2 i hi
  exact ⟨by rw [hm _ (by omega) (by omega)]; exact b1, by rw [h10]; exact b2, by rw [h11]; exact b3⟩
theorem zw48 {Z : tx_Z} (h : (zP Z).2 ≤ 96) : (zw Z).1 ≤ 48 := by
  have := wst_len (zP Z).1 (zP Z).2
  rw [zw]
  cases q : (wst (zP Z).1 (zP Z).2).2.1 with
  | true => have := (this.1 q).1; omega
  | false => have := this.2 q; omega
theorem l_stop17 {Z : tx_Z} {l : Nat} {z : wS} (hl : l < 3) (hz : z.1 ≤ 48) (hroom : nst (zN Z) + 48 ≤ 2000) : ∀ (d k : Nat) (I : Nat → Int32) (B : Nat → Nat → Int32) (μ : Nat → List Nat), tx_m (zP Z, (stpF (zN Z) l z.2.2.1 k).1, Z.2.2) I B S μ → mtap I B μ z → z.1 = k + d →
    Go m_Mo_stop 17 [some (.ref 48), some (.int (nI l)), some (.int (nI (stpF (zN Z) l z.2.2.1 k).2)), some (.int (nI k))] [] (hM T I B S D) (fun r h' => r = some (.int (nI (stpF (zN Z) l z.2.2.1 z.1).2)) ∧ ∃ I' B' μ', h' = hM T I' B' S D ∧ tx_m (zP Z, (stpF (zN Z) l z.2.2.1 z.1).1, Z.2.2) I' B' S μ') := by
  intro d
  induction d with
  | zero =>
    intro k I B μ hZ hm hk
    have ek : k = z.1 := by omega
    subst ek
    iterate 3 refine go_s rfl rfl rfl trivial ?_
    rw [hm.1]
    iterate 1 refine go_s rfl rfl rfl trivial ?_
    refine go_if (fun hc => ?_) (fun hc => ?_)
    · iterate 1 refine go_s rfl rfl rfl trivial ?_
      exact go_r rfl rfl rfl trivial ⟨rfl, I, B, μ, rfl, hZ⟩
    · exact absurd (Int32.le_refl _) hc
  | succ d ih =>
    intro k I B μ hZ hm hk
    obtain ⟨h1, h2, h3, h4, h5, h6, h7⟩ := id hZ
    obtain ⟨m1, m2, m3⟩ := hm.2 k (by omega)
    have ek : (3968 : Int32) + nI k = nI (3968 + k) := by rw [show (3968 : Int32) = nI 3968 from rfl, nI_add]
    obtain ⟨s1, s2⟩ := stpF_le (zN Z) hl z.2.2.1 k
    have e0 : stpF (zN Z) l z.2.2.1 (k + 1) = ifp (z.2.2.1 k ∈ (stpF (zN Z) l z.2.2.1 k).1.1 l) (stpF (zN Z) l z.2.2.1 k) ((va_up (stpF (zN Z) l z.2.2.1 k).1.1 l ((stpF (zN Z) l z.2.2.1 k).1.1 l ++ [z.2.2.1 k]), (stpF (zN Z) l z.2.2.1 k).1.2), (stpF (zN Z) l z.2.2.1 k).2 + 1) := rfl
    iterate 3 refine go_s rfl rfl rfl trivial ?_
    rw [hm.1]
    iterate 1 refine go_s rfl rfl rfl trivial ?_
    refine go_if (fun hc => ?_) (fun hc => ?_)
    · exact absurd hc (nI_ge (by omega) (by omega))
    · iterate 5 refine go_s rfl rfl rfl trivial ?_
      rw [ek]
      refine go_c rfl rfl rfl (c_isStop_E h1 h3.env (a := 3968 + k) (by omega) hl) ?_
      rintro r h0 ⟨rfl, rfl⟩
      iterate 1 refine go_s rfl rfl rfl trivial ?_
      refine go_if (fun hc => ?_) (fun hc => ?_)
      · have hno : ¬ z.2.2.1 k ∈ (stpF (zN Z) l z.2.2.1 k).1.1 l := fun q => by
          rw [m1, b01_t (nE_none.mpr q)] at hc
          exact absurd hc (by decide)
        rw [ifp_f hno] at e0
        have en : I 3 = nI (nst (stpF (zN Z) l z.2.2.1 k).1) := h3.1
        have cn : (nI (nst (stpF (zN Z) l z.2.2.1 k).1)).toNatClampNeg = nst (stpF (zN Z) l z.2.2.1 k).1 := nI_clamp (by omega)
        iterate 5 refine go_s rfl rfl rfl trivial ?_
        rw [en]
        refine go_s rfl rfl rfl ?_ ?_
        · exact vp_in_nI (by omega) (by omega)
        simp only [cn]
        iterate 8 refine go_s rfl rfl rfl trivial ?_
        rw [ek, en, show (1920 : Int32) + nI (nst (stpF (zN Z) l z.2.2.1 k).1) = nI (1920 + nst (stpF (zN Z) l z.2.2.1 k).1) by rw [show (1920 : Int32) = nI 1920 from rfl, nI_add]]
        refine go_c rfl rfl rfl (c_copy (B := va_up B 8 (upd (B 8) (nst (stpF (zN Z) l z.2.2.1 k).1) (nI l))) (h1.keep2 rfl rfl) (a := 3968 + k) (b := 1920 + nst (stpF (zN Z) l z.2.2.1 k).1) (by omega) (by omega) (by omega)) ?_
        rintro r h0 ⟨rfl, B1, rfl, hs1, hw1⟩
        rw [m1] at hw1
        iterate 9 refine go_s rfl rfl rfl trivial ?_
        rw [nI_1, en, nI_1, nI_1]
        have kB : ∀ i, 2 ≤ i → i ≠ 8 → B1 i = B i := fun i h2 h8 => (hs1 i h2).trans (va_up_ne _ _ h8)
        have kI : ∀ i, i ≠ 3 → va_up I 3 (nI (nst (stpF (zN Z) l z.2.2.1 k).1 + 1)) i = I i := fun i hi => va_up_ne _ _ hi
        have km : ∀ a, a ≠ 1920 + nst (stpF (zN Z) l z.2.2.1 k).1 → va_up μ (1920 + nst (stpF (zN Z) l z.2.2.1 k).1) (z.2.2.1 k) a = μ a := fun a ha => va_up_ne _ _ ha
        have := ih (k + 1) (va_up I 3 (nI (nst (stpF (zN Z) l z.2.2.1 k).1 + 1))) B1 _ (by
          rw [e0]
          refine ⟨hw1, h2.keep (kI 0 (by decide)) (kB 2 (by decide) (by decide)), ?_, h4.keep (kI 1 (by decide)) (kI 2 (by decide)) (fun i a b => kB i (by omega) (by omega)) (fun a b => km a (by omega)), h5.keep (kI 9 (by decide)) (kB 16 (by decide) (by decide)), h6.keep (kI 10 (by decide)) (fun a b c => km a (by omega)), h7.keep (kI 11 (by decide)) (kB 18 (by decide) (by decide))⟩
          exact gN_add h3 hl (by show nst (stpF (zN Z) l z.2.2.1 k).1 + 1 ≤ 2000; omega) (va_up_self _ _ _) ((hs1 8 (by decide)).trans (va_up_self _ _ _)) (kB 9 (by decide) (by decide)) (fun a _ _ hne => km a hne) (va_up_self _ _ _)) (hm.keep hz (kI 4 (by decide)) (kB 10 (by decide) (by decide)) (kB 11 (by decide) (by decide)) (fun a b c => km a (by omega))) (by omega)
        rw [show (stpF (zN Z) l z.2.2.1 (k + 1)).2 = (stpF (zN Z) l z.2.2.1 k).2 + 1 by rw [e0]] at this
        exact this
      · have hyes : z.2.2.1 k ∈ (stpF (zN Z) l z.2.2.1 k).1.1 l := by
          rw [m1] at hc
          exact nE_none.mp (Classical.not_not.mp fun q => hc (b01_f q))
        rw [ifp_t hyes] at e0
        iterate 3 refine go_s rfl rfl rfl trivial ?_
        rw [nI_1]
        have := ih (k + 1) I B μ (by rw [e0]; exact hZ) hm (by omega)
        rw [e0] at this
        exact this
theorem c_stop {Z : tx_Z} {I : Nat → Int32} {B : Nat → Nat → Int32} {μ : Nat → List Nat} (hZ : tx_m Z I B S μ) (hroom : nst (zN Z) + 48 ≤ 2000) (x : Int32) : Do m_Mo_stop [.ref 48, .int x] (hM T I B S D) (fun r h' => r = some (.int (spStop Z x).1) ∧ ∃ I' B' μ', h' = hM T I' B' S D ∧ tx_m (spStop Z x).2 I' B' S μ') := by
  iterate 1 refine go_s rfl rfl rfl trivial ?_
  refine go_c rfl rfl rfl (c_isLanguage _ x) ?_
  rintro r h3 ⟨rfl, rfl⟩
  iterate 1 refine go_s rfl rfl rfl trivial ?_
  refine go_if (fun hc => ?_) (fun hc => ?_)
  · have hq : isL x := Classical.not_not.mp fun q => hc (b01_f q)
    obtain ⟨l, hl, rfl⟩ := isL_nat hq
    have cl : (nI l).toNatClampNeg = l := nI_clamp (by omega)
    rw [spStop, ifp_t hq, cl]
    iterate 1 refine go_s rfl rfl rfl trivial ?_
    refine go_c rfl rfl rfl (c_readWords hZ.1 hZ.2.1) ?_
    rintro r h3 ⟨rfl, I1, B1, μ1, rfl, hI0, hm1, hr1⟩
    iterate 4 refine go_s rfl rfl rfl trivial ?_
    exact l_stop17 (Z := z0 Z) hl (zw48 hZ.2.1.2.1) hroom (zw Z).1 0 I1 B1 μ1 (l_rdZ hZ hI0 hr1) hm1 (by omega)
  · have hq : ¬ isL x := fun q => hc (by rw [b01_t q]; decide)
    rw [spStop, ifp_f hq]
    iterate 1 refine go_s rfl rfl rfl trivial ?_
    exact go_r rfl rfl rfl trivial ⟨rfl, I, B, μ, rfl, hZ⟩
theorem c_stem {Z : tx_Z} {I : Nat → Int32} {B : Nat → Nat → Int32} {μ : Nat → List Nat} (hZ : tx_m Z I B S μ) (x : Int32) : Do m_Mo_stem [.ref 48, .int x] (hM T I B S D) (fun r h' => r = some (.int (spStem Z x).1) ∧ ∃ I' B' μ', h' = hM T I' B' S D ∧ tx_m (spStem Z x).2 I' B' S μ') := by
  iterate 1 refine go_s rfl rfl rfl trivial ?_
  refine go_c rfl rfl rfl (c_isLanguage _ x) ?_
  rintro r h3 ⟨rfl, rfl⟩
  iterate 1 refine go_s rfl rfl rfl trivial ?_
  refine go_if (fun hc => ?_) (fun hc => ?_)
  · have hq : isL x := Classical.not_not.mp fun q => hc (b01_f q)
    obtain ⟨l, hl, rfl⟩ := isL_nat hq
    have cl : (nI l).toNatClampNeg = l := nI_clamp (by omega)
    rw [spStem, ifp_t hq, cl]
    iterate 1 refine go_s rfl rfl rfl trivial ?_
    refine go_c rfl rfl rfl (c_readWords hZ.1 hZ.2.1) ?_
    rintro r h3 ⟨rfl, I1, B1, μ1, rfl, hI0, hm1, hr1⟩
    have hZ1 := l_rdZ hZ hI0 hr1
    have hz48 := zw48 hZ.2.1.2.1
    obtain ⟨h1, h2, h3, h4, h5, h6, h7⟩ := id hZ1
    have e0 : I1 4 = nI (zw Z).1 := hm1.1
    iterate 2 refine go_s rfl rfl rfl trivial ?_
    rw [e0]
    iterate 1 refine go_s rfl rfl rfl trivial ?_
    refine go_if (fun hc => ?_) (fun hc => ?_)
    · have hne : ¬ (zw Z).1 = 0 := fun q => hc (by rw [q]; rfl)
      rw [if_neg hne]
      have ew : μ1 3968 = (zw Z).2.2.1 0 := (hm1.2 0 (by show 0 < (zw Z).1; omega)).1
      obtain ⟨n1, n2, n3, n4⟩ := h3.2.2 l hl
      iterate 4 refine go_s rfl rfl rfl trivial ?_
      refine go_c rfl rfl rfl (c_stemTo h1 hl (a := 3968) (to := 6032) (by omega) (by omega) (by omega) (Or.inr (by omega)) n1 n2) ?_
      rintro r h0 ⟨rfl, B2, rfl, hs2, hw2⟩
      rw [n3, ew] at hw2
      iterate 2 refine go_s rfl rfl rfl trivial ?_
      refine go_c rfl rfl rfl (c_show hw2 (a := 6032) (by omega)) ?_
      rintro r h0 ⟨rfl, B3, rfl, hB3, hs3⟩
      rw [va_up_self] at hs3 ⊢
      have kB : ∀ i, 2 ≤ i → i ≠ 18 → B3 i = B1 i := fun i a b => (hB3 i b).trans (hs2 i a)
      refine go_r rfl rfl rfl trivial ⟨rfl, _, B3, _, rfl, hw2.keep2 (hB3 0 (by decide)) (hB3 1 (by decide)), h2.keep rfl (kB 2 (by decide) (by decide)), h3.keep rfl (kB 8 (by decide) (by decide)) (kB 9 (by decide) (by decide)) (fun a _ b => va_up_ne _ _ (by omega)), h4.keep rfl rfl (fun i a b => kB i (by omega) (by omega)) (fun a b => va_up_ne _ _ (by omega)), h5.keep rfl (kB 16 (by decide) (by decide)), h6.keep rfl (fun a b c => va_up_ne _ _ (by omega)), hs3⟩
    · have he : (zw Z).1 = 0 := nI_inj (by omega) (by omega) (Classical.not_not.mp hc)
      rw [if_pos he]
      iterate 1 refine go_s rfl rfl rfl trivial ?_
      exact go_r rfl rfl rfl trivial ⟨rfl, I1, B1, μ1, rfl, hZ1⟩
  · have hq : ¬ isL x := fun q => hc (by rw [b01_t q]; decide)
    rw [spStem, ifp_f hq]
    iterate 1 refine go_s rfl rfl rfl trivial ?_
    exact go_r rfl rfl rfl trivial ⟨rfl, I, B, μ, rfl, hZ⟩
end MSTOP
end
section
/-! ===== the reference: ending ===== -/
theorem rl_app {μ μ' : Nat → List Nat} {l : Nat} : ∀ (d r : Nat), (∀ a, a < 3920 + 16 * l + 2 * (r + d) → 3920 + 16 * l ≤ a → μ' a = μ a) → rl μ' l r (d + 1) = rl μ l r d ++ [(μ' (3920 + 16 * l + 2 * (r + d)), μ' (3920 + 16 * l + 2 * (r + d) + 1))]
  | 0, r, _ => rfl
  | d + 1, r, h => by
    have ih := rl_app (μ := μ) (μ' := μ') (l := l) d (r + 1) (fun a h1 h2 => h a (by omega) h2)
    rw [rl, ih]
    simp only [rl, List.cons_append]
    rw [h (3920 + 16 * l + 2 * r) (by omega) (by omega), h (3920 + 16 * l + 2 * r + 1) (by omega) (by omega)]
    rw [show r + 1 + d = r + (d + 1) by omega]
theorem gN_rule {N : tx_N} {I I' : Nat → Int32} {B B' : Nat → Nat → Int32} {μ μ' : Nat → List Nat} {l : Nat} {u v : List Nat} (h : gN N I B μ) (hl : l < 3) (h8 : (N.2 l).length < 8) (hI : I' 3 = I 3) (hB8 : B' 8 = B 8) (hB9 : B' 9 = upd (B 9) l (nI ((N.2 l).length + 1))) (hm : ∀ a, 1920 ≤ a → a < 3968 → a ≠ 3920 + 16 * l + 2 * (N.2 l).length → a ≠ 3920 + 16 * l + 2 * (N.2 l).length + 1 → μ' a = μ a) (hu : μ' (3920 + 16 * l + 2 * (N.2 l).length) = u) (hv : μ' (3920 + 16 * l + 2 * (N.2 l).length + 1) = v) : gN (N.1, va_up N.2 l (N.2 l ++ [(u, v)])) I' B' μ' := by
  obtain ⟨h1, h2, h3⟩ := h
  refine ⟨hI.trans h1, h2, fun l' hl' => ?_⟩
  obtain ⟨k1, k2, k3, k4⟩ := h3 l' hl'
  show B' 9 l' = nI (va_up N.2 l (N.2 l ++ [(u, v)]) l').length ∧ (va_up N.2 l (N.2 l ++ [(u, v)]) l').length ≤ 8 ∧ rl μ' l' 0 (va_up N.2 l (N.2 l ++ [(u, v)]) l').length = va_up N.2 l (N.2 l ++ [(u, v)]) l' ∧ ∀ w, stopQ (nst N) B' μ' (nI l') w ↔ w ∈ N.1 l'
  have hs : ∀ w, stopQ (nst N) B' μ' (nI l') w ↔ w ∈ N.1 l' := by
    intro w
    rw [← k4 w]
    constructor
    · rintro ⟨k, y1, y2, y3⟩
      exact ⟨k, y1, by rw [← hB8]; exact y2, by rw [← hm (1920 + k) (by omega) (by omega) (by omega) (by omega)]; exact y3⟩
    · rintro ⟨k, y1, y2, y3⟩
      exact ⟨k, y1, by rw [hB8]; exact y2, by rw [hm (1920 + k) (by omega) (by omega) (by omega) (by omega)]; exact y3⟩
  by_cases el : l' = l
  · subst el
    rw [va_up_self]
    refine ⟨by rw [hB9, pk_us, List.length_append]; rfl, by rw [List.length_append, List.length_singleton]; omega, ?_, hs⟩
    rw [List.length_append, List.length_singleton, rl_app (μ := μ) (N.2 l').length 0 (fun a a1 a2 => hm a (by omega) (by omega) (by omega) (by omega)), k3, Nat.zero_add, hu, hv]
  · rw [va_up_ne _ _ el]
    refine ⟨by rw [hB9, pk_un el]; exact k1, k2, ?_, hs⟩
    have key : ∀ (d r : Nat), r + d ≤ 8 → rl μ' l' r d = rl μ l' r d := by
      intro d
      induction d with
      | zero => intro r _; rfl
      | succ d ih =>
        intro r hr
        simp only [rl]
        rw [hm _ (by omega) (by omega) (by omega) (by omega), hm _ (by omega) (by omega) (by omega) (by omega), ih (r + 1) (by omega)]
    exact (key (N.2 l').length 0 (by omega)).trans k3
section MEND
variable {T : Nat → am_C} {D : List am_C} {S : Nat → Int64}
theorem l_end91 {Z : tx_Z} {I : Nat → Int32} {B : Nat → Nat → Int32} {l n : Nat} (hl : l < 3) (hn : B 9 l = nI n) (hn8 : n < 8) (X2 : Option Value) (kk : ∃ μ, tx_m Z I (va_up B 9 (upd (B 9) l (nI (n + 1)))) S μ) :
    Go m_Mo_ending 91 [some (.ref 48), some (.int (nI l)), X2] [] (hM T I B S D) (fun r h' => r = some (.int (nI (n + 1))) ∧ ∃ I' B' μ', h' = hM T I' B' S D ∧ tx_m Z I' B' S μ') := by
  have cl : (nI l).toNatClampNeg = l := nI_clamp (by omega)
  obtain ⟨μ1, kk⟩ := kk
  iterate 4 refine go_s rfl rfl rfl trivial ?_
  refine go_s rfl rfl rfl ?_ ?_
  · exact vp_in_nI (by omega) (by omega)
  simp only [cl, hn]
  iterate 2 refine go_s rfl rfl rfl trivial ?_
  refine go_s rfl rfl rfl ?_ ?_
  · exact vp_in_nI (by omega) (by omega)
  rw [nI_1]
  simp only [cl]
  iterate 3 refine go_s rfl rfl rfl trivial ?_
  refine go_s rfl rfl rfl ?_ ?_
  · exact vp_in_nI (by omega) (by omega)
  simp only [cl]
  refine go_r rfl rfl rfl trivial ⟨?_, I, _, μ1, rfl, kk⟩
  rw [pk_us]
theorem c_ending {Z : tx_Z} {I : Nat → Int32} {B : Nat → Nat → Int32} {μ : Nat → List Nat} (hZ : tx_m Z I B S μ) (x : Int32) : Do m_Mo_ending [.ref 48, .int x] (hM T I B S D) (fun r h' => r = some (.int (spEnding Z x).1) ∧ ∃ I' B' μ', h' = hM T I' B' S D ∧ tx_m (spEnding Z x).2 I' B' S μ') := by
  iterate 1 refine go_s rfl rfl rfl trivial ?_
  refine go_c rfl rfl rfl (c_isLanguage _ x) ?_
  rintro r h3 ⟨rfl, rfl⟩
  iterate 1 refine go_s rfl rfl rfl trivial ?_
  refine go_if (fun hc => ?_) (fun hc => ?_)
  · have hq : isL x := Classical.not_not.mp fun q => hc (b01_f q)
    obtain ⟨l, hl, rfl⟩ := isL_nat hq
    have cl : (nI l).toNatClampNeg = l := nI_clamp (by omega)
    rw [spEnding, ifp_t hq, cl]
    iterate 1 refine go_s rfl rfl rfl trivial ?_
    refine go_c rfl rfl rfl (c_readWords hZ.1 hZ.2.1) ?_
    rintro r h3 ⟨rfl, I1, B1, μ1, rfl, hI0, hm1, hr1⟩
    have hZ1 := l_rdZ hZ hI0 hr1
    have hz48 := zw48 hZ.2.1.2.1
    obtain ⟨h1, h2, h3, h4, h5, h6, h7⟩ := id hZ1
    have e0 : I1 4 = nI (zw Z).1 := hm1.1
    iterate 2 refine go_s rfl rfl rfl trivial ?_
    rw [e0]
    iterate 1 refine go_s rfl rfl rfl trivial ?_
    refine go_if (fun hc1 => ?_) (fun hc1 => ?_)
    · have he : (zw Z).1 = 0 := nI_inj (by omega) (by omega) hc1
      rw [if_pos (Or.inl he)]
      iterate 1 refine go_s rfl rfl rfl trivial ?_
      exact go_r rfl rfl rfl trivial ⟨rfl, I1, B1, μ1, rfl, hZ1⟩
    · have hne : ¬ (zw Z).1 = 0 := fun q => hc1 (by rw [q]; rfl)
      iterate 2 refine go_s rfl rfl rfl trivial ?_
      rw [e0]
      iterate 2 refine go_s rfl rfl rfl trivial ?_
      refine go_if (fun hc2 => ?_) (fun hc2 => ?_)
      · have h2le : (zw Z).1 ≤ 2 := (nI_leI (b := 2) (by omega) (by omega)).mp hc2
        rw [if_neg (by omega)]
        obtain ⟨n1, n2, n3, n4⟩ := h3.2.2 l hl
        have n1 : B1 9 l = nI ((zN Z).2 l).length := n1
        iterate 3 refine go_s rfl rfl rfl trivial ?_
        refine go_s rfl rfl rfl ?_ ?_
        · exact vp_in_nI (by omega) (by omega)
        simp only [cl, n1]
        iterate 2 refine go_s rfl rfl rfl trivial ?_
        refine go_if (fun hc3 => ?_) (fun hc3 => ?_)
        · have h8 : ¬ ((zN Z).2 l).length = 8 := fun q => hc3 (by
            show nI ((zN Z).2 l).length = 8
            rw [q]; rfl)
          have n2' : ((zN Z).2 l).length ≤ 8 := n2
          have ew0 : μ1 3968 = (zw Z).2.2.1 0 := (hm1.2 0 (by show 0 < (zw Z).1; omega)).1
          rw [if_neg h8]
          iterate 4 refine go_s rfl rfl rfl trivial ?_
          refine go_s rfl rfl rfl ?_ ?_
          · exact vp_in_nI (by omega) (by omega)
          simp only [cl, n1]
          refine go_c rfl rfl rfl (c_endingAt _ _ _) ?_
          rintro r h0 ⟨rfl, rfl⟩
          iterate 4 refine go_s rfl rfl rfl trivial ?_
          refine go_c rfl rfl rfl (c_copy h1 (a := 3968) (b := 3920 + 16 * l + 2 * ((zN Z).2 l).length) (by omega) (by omega) (by omega)) ?_
          rintro r h0 ⟨rfl, B2, rfl, hs2, hw2⟩
          rw [ew0] at hw2
          have c2 : (nI (3920 + 16 * l + 2 * ((zN Z).2 l).length + 1)).toNatClampNeg = 3920 + 16 * l + 2 * ((zN Z).2 l).length + 1 := nI_clamp (by omega)
          iterate 5 refine go_s rfl rfl rfl trivial ?_
          rw [nI_1]
          iterate 1 refine go_s rfl rfl rfl trivial ?_
          refine go_s rfl rfl rfl ?_ ?_
          · exact vp_in_nI (by omega) (by omega)
          simp only [c2]
          have hw3 : wm (va_up B2 1 (upd (B2 1) (3920 + 16 * l + 2 * ((zN Z).2 l).length + 1) 0)) _ := wm_len0 hw2 (a := 3920 + 16 * l + 2 * ((zN Z).2 l).length + 1) (by omega) rfl rfl
          iterate 2 refine go_s rfl rfl rfl trivial ?_
          rw [e0]
          iterate 2 refine go_s rfl rfl rfl trivial ?_
          have k3 : ∀ i, 2 ≤ i → va_up B2 1 (upd (B2 1) (3920 + 16 * l + 2 * ((zN Z).2 l).length + 1) 0) i = B1 i := fun i hi => (va_up_ne _ _ (by omega)).trans (hs2 i hi)
          refine go_if (fun hc4 => ?_) (fun hc4 => ?_)
          · have h21 : ¬ (zw Z).1 = 2 := fun q => hc4 (by rw [q]; rfl)
            refine l_end91 hl ((congrFun (k3 9 (by decide)) l).trans n1) (by omega) _ ⟨va_up (va_up μ1 (3920 + 16 * l + 2 * ((zN Z).2 l).length) ((zw Z).2.2.1 0)) (3920 + 16 * l + 2 * ((zN Z).2 l).length + 1) [], ?_⟩
            rw [if_neg h21]
            have kB : ∀ i, 2 ≤ i → i ≠ 9 → va_up (va_up B2 1 (upd (B2 1) (3920 + 16 * l + 2 * ((zN Z).2 l).length + 1) 0)) 9 (upd (va_up B2 1 (upd (B2 1) (3920 + 16 * l + 2 * ((zN Z).2 l).length + 1) 0) 9) l (nI (((zN Z).2 l).length + 1))) i = B1 i := fun i a b => (va_up_ne _ _ b).trans (k3 i a)
            refine ⟨hw3.keep2 rfl rfl, h2.keep rfl (kB 2 (by decide) (by decide)), ?_, h4.keep rfl rfl (fun i a b => kB i (by omega) (by omega)) (fun a b => (va_up_ne _ _ (by omega)).trans (va_up_ne _ _ (by omega))), h5.keep rfl (kB 16 (by decide) (by decide)), h6.keep rfl (fun a b c => (va_up_ne _ _ (by omega)).trans (va_up_ne _ _ (by omega))), h7.keep rfl (kB 18 (by decide) (by decide))⟩
            refine gN_rule h3 hl (by show ((zN Z).2 l).length < 8; omega) rfl (kB 8 (by decide) (by decide)) ?_ (fun a a1 a2 a3 a4 => (va_up_ne _ _ a4).trans (va_up_ne _ _ a3)) ?_ (va_up_self _ _ _)
            · rw [va_up_self, k3 9 (by decide)]
            · exact (va_up_ne _ _ (by show 3920 + 16 * l + 2 * ((zN Z).2 l).length ≠ _; omega)).trans (va_up_self _ _ _)
          · have h21 : (zw Z).1 = 2 := nI_inj (by omega) (by omega) (Classical.not_not.mp hc4)
            have ew1 : μ1 3969 = (zw Z).2.2.1 1 := (hm1.2 1 (by show 1 < (zw Z).1; omega)).1
            iterate 5 refine go_s rfl rfl rfl trivial ?_
            rw [nI_1]
            refine go_c rfl rfl rfl (c_copy hw3 (a := 3969) (b := 3920 + 16 * l + 2 * ((zN Z).2 l).length + 1) (by omega) (by omega) (by omega)) ?_
            rintro r h0 ⟨rfl, B4, rfl, hs4, hw4⟩
            rw [va_up_ne _ _ (by omega), va_up_ne _ _ (by omega), ew1, bx_uu] at hw4
            refine l_end91 hl ((congrFun (hs4 9 (by decide)) l).trans ((congrFun (k3 9 (by decide)) l).trans n1)) (by omega) _ ⟨va_up (va_up μ1 (3920 + 16 * l + 2 * ((zN Z).2 l).length) ((zw Z).2.2.1 0)) (3920 + 16 * l + 2 * ((zN Z).2 l).length + 1) ((zw Z).2.2.1 1), ?_⟩
            rw [if_pos h21]
            have kB : ∀ i, 2 ≤ i → i ≠ 9 → va_up B4 9 (upd (B4 9) l (nI (((zN Z).2 l).length + 1))) i = B1 i := fun i a b => (va_up_ne _ _ b).trans ((hs4 i a).trans (k3 i a))
            refine ⟨hw4.keep2 rfl rfl, h2.keep rfl (kB 2 (by decide) (by decide)), ?_, h4.keep rfl rfl (fun i a b => kB i (by omega) (by omega)) (fun a b => (va_up_ne _ _ (by omega)).trans (va_up_ne _ _ (by omega))), h5.keep rfl (kB 16 (by decide) (by decide)), h6.keep rfl (fun a b c => (va_up_ne _ _ (by omega)).trans (va_up_ne _ _ (by omega))), h7.keep rfl (kB 18 (by decide) (by decide))⟩
            refine gN_rule h3 hl (by show ((zN Z).2 l).length < 8; omega) rfl (kB 8 (by decide) (by decide)) ?_ (fun a a1 a2 a3 a4 => (va_up_ne _ _ a4).trans (va_up_ne _ _ a3)) ?_ (va_up_self _ _ _)
            · rw [va_up_self, hs4 9 (by decide), k3 9 (by decide)]
            · exact (va_up_ne _ _ (by show 3920 + 16 * l + 2 * ((zN Z).2 l).length ≠ _; omega)).trans (va_up_self _ _ _)
        · have h8 : ((zN Z).2 l).length = 8 := nI_inj (by have : ((zN Z).2 l).length ≤ 8 := n2; omega) (by omega) (Classical.not_not.mp hc3)
          rw [if_pos h8]
          iterate 1 refine go_s rfl rfl rfl trivial ?_
          exact go_r rfl rfl rfl trivial ⟨rfl, I1, B1, μ1, rfl, hZ1⟩
      · have h2gt : 2 < (zw Z).1 := by
          refine Nat.lt_of_not_le fun q => hc2 ?_
          exact (nI_leI (b := 2) (by omega) (by omega)).mpr q
        rw [if_pos (Or.inr h2gt)]
        iterate 1 refine go_s rfl rfl rfl trivial ?_
        exact go_r rfl rfl rfl trivial ⟨rfl, I1, B1, μ1, rfl, hZ1⟩
  · have hq : ¬ isL x := fun q => hc (by rw [b01_t q]; decide)
    rw [spEnding, ifp_f hq]
    iterate 1 refine go_s rfl rfl rfl trivial ?_
    exact go_r rfl rfl rfl trivial ⟨rfl, I, B, μ, rfl, hZ⟩
end MEND
end
section
/-! ===== the reference: text ===== -/
theorem gX.keepT {X : tx_X} {I I' : Nat → Int32} {B B' : Nat → Nat → Int32} {μ μ' : Nat → List Nat} (h : gX X I B μ) (h1 : I' 1 = I 1) (h2 : I' 2 = I 2) (hB : ∀ i, 3 ≤ i → i ≤ 5 → ∀ t, t < xnt X → B' i t = B i t) (hF : ∀ i, 6 ≤ i → i ≤ 7 → ∀ a, a < 48 * xnt X → B' i a = B i a) (hm : ∀ a, a < 48 * xnt X → μ' a = μ a) : gX X I' B' μ' := by
  obtain ⟨⟨a1, a2, a3⟩, a4, a5⟩ := h
  refine ⟨⟨h1.trans a1, a2, fun t ht => ?_⟩, fun t ht p hp => ?_, h2.trans a5⟩
  · obtain ⟨k1, k2, k3, k4, k5, k6, k7⟩ := a3 t ht
    refine ⟨by rw [hB 3 (by omega) (by omega) t ht]; exact k1, k2, by rw [hB 4 (by omega) (by omega) t ht]; exact k3, k4, by rw [hB 5 (by omega) (by omega) t ht]; exact k5, k6, fun p hp => ?_⟩
    rw [hm _ (by omega)]
    exact k7 p hp
  · have := (a3 t ht).2.2.2.2.2.1
    rw [hF 6 (by omega) (by omega) _ (by omega), hF 7 (by omega) (by omega) _ (by omega)]
    exact a4 t ht p hp
theorem cnt_congr {P P' : Nat → Prop} : ∀ n, (∀ j, j < n → (P j ↔ P' j)) → cnt P n = cnt P' n
  | 0, _ => rfl
  | n + 1, h => by
    have ih := cnt_congr n (fun j hj => h j (by omega))
    by_cases q : P n
    · rw [cnt_t q, cnt_t ((h n (by omega)).mp q), ih]
    · rw [cnt_f q, cnt_f (fun q2 => q ((h n (by omega)).mpr q2)), ih]
theorem sumN_le {f : Nat → Nat} {m : Nat} : ∀ n, (∀ j, j < n → f j ≤ m) → sumN f n ≤ m * n
  | 0, _ => Nat.le_refl _
  | n + 1, h => by
    have ih := sumN_le n (fun j hj => h j (by omega))
    have := h n (by omega)
    rw [sumN, Nat.mul_succ]
    omega
def xadd (X : tx_X) (l f : Nat) (z : wS) : tx_X := (xnt X + 1, va_up (xlg X) (xnt X) (some l), va_up (xfd X) (xnt X) f, va_up (xcn X) (xnt X) z.1, va_up (xwd X) (xnt X) z.2.2.1, va_up (xfr X) (xnt X) z.2.2.2.1, va_up (xfu X) (xnt X) z.2.2.2.2)
noncomputable def spText (Z : tx_Z) (x f : Int32) : Int32 × tx_Z := ifp (isL x ∧ 0 ≤ f ∧ f < 4) (if xnt (zX Z) = 40 ∨ 400 < sumN (xcn (zX Z)) (xnt (zX Z)) + (zw Z).1 then (-3, z0 Z) else (nI (xnt (zX Z)), (((zP Z).1, 0), zN Z, xadd (zX Z) x.toNatClampNeg f.toNatClampNeg (zw Z), Z.2.2.2))) (-1, Z)
section MTEXT
variable {T : Nat → am_C} {D : List am_C} {S : Nat → Int64}
theorem l_wordsOf {X : tx_X} {I : Nat → Int32} {B : Nat → Nat → Int32} {μ : Nat → List Nat} (hX : gX X I B μ) {n : Nat} (hn : n ≤ xnt X) : ∀ (d t : Nat), n = t + d →
    Go m_Mo_wordsOf 4 [some (.ref 48), some (.int (nI n)), some (.int (nI (sumN (xcn X) t))), some (.int (nI t))] [] (hM T I B S D) (fun r h' => r = some (.int (nI (sumN (xcn X) n))) ∧ h' = hM T I B S D) := by
  obtain ⟨⟨x1, x2, x3⟩, -, -⟩ := hX
  intro d
  induction d with
  | zero =>
    intro t ht
    have et : t = n := by omega
    subst et
    iterate 3 refine go_s rfl rfl rfl trivial ?_
    refine go_if (fun hc => ?_) (fun hc => ?_)
    · iterate 1 refine go_s rfl rfl rfl trivial ?_
      exact go_r rfl rfl rfl trivial ⟨rfl, rfl⟩
    · exact absurd (Int32.le_refl _) hc
  | succ d ih =>
    intro t ht
    have ct : (nI t).toNatClampNeg = t := nI_clamp (by omega)
    iterate 3 refine go_s rfl rfl rfl trivial ?_
    refine go_if (fun hc => ?_) (fun hc => ?_)
    · exact absurd hc (nI_ge (by omega) (by omega))
    · iterate 4 refine go_s rfl rfl rfl trivial ?_
      refine go_s rfl rfl rfl ?_ ?_
      · exact vp_in_nI (by omega) (by omega)
      simp only [ct, (x3 t (by omega)).2.2.2.2.1]
      iterate 2 refine go_s rfl rfl rfl trivial ?_
      rw [nI_add]
      iterate 2 refine go_s rfl rfl rfl trivial ?_
      rw [nI_1]
      exact ih (t + 1) (by omega)
theorem c_wordsOf {X : tx_X} {I : Nat → Int32} {B : Nat → Nat → Int32} {μ : Nat → List Nat} (hX : gX X I B μ) {n : Nat} (hn : n ≤ xnt X) : Do m_Mo_wordsOf [.ref 48, .int (nI n)] (hM T I B S D) (fun r h' => r = some (.int (nI (sumN (xcn X) n))) ∧ h' = hM T I B S D) := by
  iterate 4 refine go_s rfl rfl rfl trivial ?_
  exact l_wordsOf hX hn n 0 (by omega)
theorem l_text88 {Z : tx_Z} {l f : Nat} {z : wS} (hl : l < 3) (hf : f < 4) (hz : z.1 ≤ 48) (hnt : xnt (zX Z) < 40) : ∀ (d k : Nat) (I : Nat → Int32) (B : Nat → Nat → Int32) (μ : Nat → List Nat), tx_m Z I B S μ → mtap I B μ z → B 3 (xnt (zX Z)) = nI l → B 4 (xnt (zX Z)) = nI f → B 5 (xnt (zX Z)) = nI z.1 →
      (∀ j, j < k → μ (48 * xnt (zX Z) + j) = z.2.2.1 j ∧ B 6 (48 * xnt (zX Z) + j) = nI (z.2.2.2.1 j) ∧ B 7 (48 * xnt (zX Z) + j) = nI (z.2.2.2.2 j)) → z.1 = k + d →
    Go m_Mo_text 88 [some (.ref 48), some (.int (nI l)), some (.int (nI f)), some (.int (nI k))] [] (hM T I B S D) (fun r h' => r = some (.int (nI (xnt (zX Z)))) ∧ ∃ I' B' μ', h' = hM T I' B' S D ∧ tx_m (zP Z, zN Z, xadd (zX Z) l f z, Z.2.2.2) I' B' S μ') := by
  intro d
  induction d with
  | zero =>
    intro k I B μ hZ hm b3 b4 b5 hj hk
    obtain ⟨h1, h2, h3, h4, h5, h6, h7⟩ := id hZ
    have ek : k = z.1 := by omega
    subst ek
    iterate 3 refine go_s rfl rfl rfl trivial ?_
    rw [hm.1]
    iterate 1 refine go_s rfl rfl rfl trivial ?_
    refine go_if (fun hc => ?_) (fun hc => ?_)
    · have e1 : I 1 = nI (xnt (zX Z)) := h4.1.1
      iterate 5 refine go_s rfl rfl rfl trivial ?_
      rw [e1, nI_1]
      iterate 5 refine go_s rfl rfl rfl trivial ?_
      refine go_r rfl rfl rfl trivial ⟨?_, va_up I 1 (nI (xnt (zX Z) + 1)), B, μ, rfl, h1, h2.keep rfl rfl, h3.keep rfl rfl rfl (fun _ _ _ => rfl), ⟨⟨va_up_self _ _ _, hnt, fun t ht => ?_⟩, fun t ht p hp => ?_, ?_⟩, h5.keep rfl rfl, h6.keep rfl (fun _ _ _ => rfl), h7.keep rfl rfl⟩
      · rw [show (1 : Int32) = nI 1 from rfl, pk_sub (by omega)]
        rfl
      · show B 3 t = lgI (va_up (xlg (zX Z)) (xnt (zX Z)) (some l) t) ∧ (∀ l', va_up (xlg (zX Z)) (xnt (zX Z)) (some l) t = some l' → l' < 3) ∧ B 4 t = nI (va_up (xfd (zX Z)) (xnt (zX Z)) f t) ∧ va_up (xfd (zX Z)) (xnt (zX Z)) f t < 4 ∧ B 5 t = nI (va_up (xcn (zX Z)) (xnt (zX Z)) z.1 t) ∧ va_up (xcn (zX Z)) (xnt (zX Z)) z.1 t ≤ 48 ∧ ∀ p, p < va_up (xcn (zX Z)) (xnt (zX Z)) z.1 t → μ (48 * t + p) = va_up (xwd (zX Z)) (xnt (zX Z)) z.2.2.1 t p
        have ht' : t < xnt (zX Z) + 1 := ht
        by_cases e : t = xnt (zX Z)
        · rw [e]
          simp only [va_up_self]
          exact ⟨b3, fun l' q => by cases q; exact hl, b4, hf, b5, hz, fun p hp => (hj p hp).1⟩
        · simp only [va_up_ne _ _ e]
          exact h4.1.2.2 t (by omega)
      · have ht' : t < xnt (zX Z) + 1 := ht
        have hp' : p < va_up (xcn (zX Z)) (xnt (zX Z)) z.1 t := hp
        show B 6 (48 * t + p) = nI (va_up (xfr (zX Z)) (xnt (zX Z)) z.2.2.2.1 t p) ∧ B 7 (48 * t + p) = nI (va_up (xfu (zX Z)) (xnt (zX Z)) z.2.2.2.2 t p)
        by_cases e : t = xnt (zX Z)
        · rw [e] at hp' ⊢
          simp only [va_up_self] at hp' ⊢
          exact (hj p hp').2
        · simp only [va_up_ne _ _ e] at hp' ⊢
          exact h4.2.1 t (by omega) p hp'
      · have e3 : xhere (xadd (zX Z) l f z) = xhere (zX Z) + 1 := by
          show cnt (fun t => va_up (xlg (zX Z)) (xnt (zX Z)) (some l) t ≠ none) (xnt (zX Z) + 1) = _
          rw [cnt_t (by rw [va_up_self]; simp)]
          congr 1
          refine cnt_congr _ fun j hj => ?_
          rw [va_up_ne _ _ (by omega)]
        have e4 := cnt_le (fun t => xlg (zX Z) t ≠ none) (xnt (zX Z))
        rw [va_up_ne _ _ (by decide), h4.2.2, e3]
        congr 1
        show xnt (zX Z) - xhere (zX Z) = xnt (zX Z) + 1 - (xhere (zX Z) + 1)
        omega
    · exact absurd (Int32.le_refl _) hc
  | succ d ih =>
    intro k I B μ hZ hm b3 b4 b5 hj hk
    obtain ⟨h1, h2, h3, h4, h5, h6, h7⟩ := id hZ
    obtain ⟨m1, m2, m3⟩ := hm.2 k (by omega)
    have e1 : I 1 = nI (xnt (zX Z)) := h4.1.1
    have ek : (3968 : Int32) + nI k = nI (3968 + k) := by rw [show (3968 : Int32) = nI 3968 from rfl, nI_add]
    have ep : (48 : Int32) * nI (xnt (zX Z)) + nI k = nI (48 * xnt (zX Z) + k) := by
      rw [show (48 : Int32) = nI 48 from rfl, pk_mul, nI_add]
    have ck : (nI k).toNatClampNeg = k := nI_clamp (by omega)
    have cp : (nI (48 * xnt (zX Z) + k)).toNatClampNeg = 48 * xnt (zX Z) + k := nI_clamp (by omega)
    iterate 3 refine go_s rfl rfl rfl trivial ?_
    rw [hm.1]
    iterate 1 refine go_s rfl rfl rfl trivial ?_
    refine go_if (fun hc => ?_) (fun hc => ?_)
    · exact absurd hc (nI_ge (by omega) (by omega))
    · iterate 10 refine go_s rfl rfl rfl trivial ?_
      rw [e1, ep, ek]
      refine go_c rfl rfl rfl (c_copy h1 (a := 3968 + k) (b := 48 * xnt (zX Z) + k) (by omega) (by omega) (by omega)) ?_
      rintro r h0 ⟨rfl, B1, rfl, hs1, hw1⟩
      rw [m1] at hw1
      iterate 11 refine go_s rfl rfl rfl trivial ?_
      rw [e1, ep]
      refine go_s rfl rfl rfl ?_ ?_
      · exact vp_in_nI (by omega) (by omega)
      simp only [ck]
      rw [hs1 10 (by decide), m2]
      refine go_s rfl rfl rfl ?_ ?_
      · exact vp_in_nI (by omega) (by omega)
      simp only [cp]
      iterate 11 refine go_s rfl rfl rfl trivial ?_
      rw [e1, ep]
      refine go_s rfl rfl rfl ?_ ?_
      · exact vp_in_nI (by omega) (by omega)
      simp only [ck]
      rw [hs1 11 (by decide), m3]
      refine go_s rfl rfl rfl ?_ ?_
      · exact vp_in_nI (by omega) (by omega)
      simp only [cp]
      iterate 2 refine go_s rfl rfl rfl trivial ?_
      rw [nI_1]
      have kB : ∀ i, 2 ≤ i → i ≠ 6 → i ≠ 7 → va_up (va_up B1 6 (upd (B1 6) (48 * xnt (zX Z) + k) (nI (z.2.2.2.1 k)))) 7 (upd (B1 7) (48 * xnt (zX Z) + k) (nI (z.2.2.2.2 k))) i = B i := fun i a b c => (va_up_ne _ _ c).trans ((va_up_ne _ _ b).trans (hs1 i a))
      have k6 : va_up (va_up B1 6 (upd (B1 6) (48 * xnt (zX Z) + k) (nI (z.2.2.2.1 k)))) 7 (upd (B1 7) (48 * xnt (zX Z) + k) (nI (z.2.2.2.2 k))) 6 = upd (B 6) (48 * xnt (zX Z) + k) (nI (z.2.2.2.1 k)) := by
        rw [va_up_ne _ _ (by decide), va_up_self, hs1 6 (by decide)]
      have k7 : va_up (va_up B1 6 (upd (B1 6) (48 * xnt (zX Z) + k) (nI (z.2.2.2.1 k)))) 7 (upd (B1 7) (48 * xnt (zX Z) + k) (nI (z.2.2.2.2 k))) 7 = upd (B 7) (48 * xnt (zX Z) + k) (nI (z.2.2.2.2 k)) := by
        rw [va_up_self, hs1 7 (by decide)]
      have km : ∀ a, a ≠ 48 * xnt (zX Z) + k → va_up μ (48 * xnt (zX Z) + k) (z.2.2.1 k) a = μ a := fun a ha => va_up_ne _ _ ha
      refine ih (k + 1) I (va_up (va_up B1 6 (upd (B1 6) (48 * xnt (zX Z) + k) (nI (z.2.2.2.1 k)))) 7 (upd (B1 7) (48 * xnt (zX Z) + k) (nI (z.2.2.2.2 k)))) (va_up μ (48 * xnt (zX Z) + k) (z.2.2.1 k)) ⟨hw1.keep2 rfl rfl, h2.keep rfl (kB 2 (by decide) (by decide) (by decide)), h3.keep rfl (kB 8 (by decide) (by decide) (by decide)) (kB 9 (by decide) (by decide) (by decide)) (fun a b c => km a (by omega)), ?_, h5.keep rfl (kB 16 (by decide) (by decide) (by decide)), h6.keep rfl (fun a b c => km a (by omega)), h7.keep rfl (kB 18 (by decide) (by decide) (by decide))⟩ (hm.keep hz rfl (kB 10 (by decide) (by decide) (by decide)) (kB 11 (by decide) (by decide) (by decide)) (fun a b c => km a (by omega))) ((congrFun (kB 3 (by decide) (by decide) (by decide)) _).trans b3) ((congrFun (kB 4 (by decide) (by decide) (by decide)) _).trans b4) ((congrFun (kB 5 (by decide) (by decide) (by decide)) _).trans b5) (fun j hjk => ?_) (by omega)
      · refine h4.keepT rfl rfl (fun i a b t ht => congrFun (kB i (by omega) (by omega) (by omega)) t) (fun i a b t ht => ?_) (fun a ha => km a (by omega))
        rcases (by omega : i = 6 ∨ i = 7) with rfl | rfl
        · rw [k6, pk_un (by omega)]
        · rw [k7, pk_un (by omega)]
      · by_cases e : j = k
        · subst e
          rw [k6, k7, va_up_self, pk_us, pk_us]
          exact ⟨rfl, rfl, rfl⟩
        · obtain ⟨y1, y2, y3⟩ := hj j (by omega)
          rw [k6, k7, km _ (by omega), pk_un (by omega), pk_un (by omega)]
          exact ⟨y1, y2, y3⟩
theorem c_text {Z : tx_Z} {I : Nat → Int32} {B : Nat → Nat → Int32} {μ : Nat → List Nat} (hZ : tx_m Z I B S μ) (x f : Int32) : Do m_Mo_text [.ref 48, .int x, .int f] (hM T I B S D) (fun r h' => r = some (.int (spText Z x f).1) ∧ ∃ I' B' μ', h' = hM T I' B' S D ∧ tx_m (spText Z x f).2 I' B' S μ') := by
  have bad : ¬ (isL x ∧ 0 ≤ f ∧ f < 4) → Go m_Mo_text 16 [some (.ref 48), some (.int x), some (.int f), none] [] (hM T I B S D) (fun r h' => r = some (.int (spText Z x f).1) ∧ ∃ I' B' μ', h' = hM T I' B' S D ∧ tx_m (spText Z x f).2 I' B' S μ') := by
    intro q
    rw [spText, ifp_f q]
    iterate 1 refine go_s rfl rfl rfl trivial ?_
    exact go_r rfl rfl rfl trivial ⟨rfl, I, B, μ, rfl, hZ⟩
  iterate 1 refine go_s rfl rfl rfl trivial ?_
  refine go_c rfl rfl rfl (c_isLanguage _ x) ?_
  rintro r h3 ⟨rfl, rfl⟩
  iterate 1 refine go_s rfl rfl rfl trivial ?_
  refine go_if (fun hc => ?_) (fun hc => ?_)
  · exact bad fun q => b01_eq0.mp hc q.1
  · have hq : isL x := Classical.not_not.mp fun q => hc (b01_f q)
    obtain ⟨l, hl, rfl⟩ := isL_nat hq
    have cl : (nI l).toNatClampNeg = l := nI_clamp (by omega)
    iterate 2 refine go_s rfl rfl rfl trivial ?_
    refine go_if (fun hc1 => ?_) (fun hc1 => ?_)
    · exact bad fun q => absurd hc1 (Int32.not_lt.mpr q.2.1)
    · iterate 3 refine go_s rfl rfl rfl trivial ?_
      refine go_if (fun hc2 => ?_) (fun hc2 => ?_)
      · obtain ⟨g, hg, rfl⟩ := nI_of hc1
        have hg4 : g < 4 := (nI_ltI (b := 4) hg (by omega)).mp hc2
        have cg : (nI g).toNatClampNeg = g := nI_clamp (by omega)
        rw [spText, ifp_t ⟨hq, Int32.not_lt.mp hc1, hc2⟩, cl, cg]
        iterate 1 refine go_s rfl rfl rfl trivial ?_
        refine go_c rfl rfl rfl (c_readWords hZ.1 hZ.2.1) ?_
        rintro r h3 ⟨rfl, I1, B1, μ1, rfl, hI0, hm1, hr1⟩
        have hZ1 := l_rdZ hZ hI0 hr1
        have hz48 := zw48 hZ.2.1.2.1
        obtain ⟨h1, h2, h3, h4, h5, h6, h7⟩ := id hZ1
        have e1 : I1 1 = nI (xnt (zX Z)) := h4.1.1
        have h40 : xnt (zX Z) ≤ 40 := h4.1.2.1
        have e4 : I1 4 = nI (zw Z).1 := hm1.1
        iterate 2 refine go_s rfl rfl rfl trivial ?_
        rw [e1]
        iterate 2 refine go_s rfl rfl rfl trivial ?_
        refine go_if (fun hc3 => ?_) (fun hc3 => ?_)
        · have : xnt (zX Z) = 40 := nI_inj (by omega) (by omega) hc3
          rw [if_pos (Or.inl this)]
          iterate 1 refine go_s rfl rfl rfl trivial ?_
          exact go_r rfl rfl rfl trivial ⟨rfl, I1, B1, μ1, rfl, hZ1⟩
        · have h40' : ¬ xnt (zX Z) = 40 := fun q => hc3 (by rw [q]; rfl)
          iterate 3 refine go_s rfl rfl rfl trivial ?_
          rw [e1]
          refine go_c rfl rfl rfl (c_wordsOf h4 (n := xnt (zX Z)) (Nat.le_refl _)) ?_
          rintro r h0 ⟨rfl, rfl⟩
          have hsum : sumN (xcn (zX Z)) (xnt (zX Z)) ≤ 48 * xnt (zX Z) := sumN_le _ (fun j hj => (h4.1.2.2 j hj).2.2.2.2.2.1)
          iterate 2 refine go_s rfl rfl rfl trivial ?_
          rw [e4]
          iterate 1 refine go_s rfl rfl rfl trivial ?_
          rw [show nI (sumN (xcn (zX (z0 Z))) (xnt (zX Z))) + nI (zw Z).1 = nI (sumN (xcn (zX Z)) (xnt (zX Z)) + (zw Z).1) from nI_add _ _]
          iterate 2 refine go_s rfl rfl rfl trivial ?_
          refine go_if (fun hc4 => ?_) (fun hc4 => ?_)
          · have : sumN (xcn (zX Z)) (xnt (zX Z)) + (zw Z).1 ≤ 400 := (nI_leI (b := 400) (by omega) (by omega)).mp hc4
            rw [if_neg (by omega)]
            have cn : (nI (xnt (zX Z))).toNatClampNeg = xnt (zX Z) := nI_clamp (by omega)
            iterate 5 refine go_s rfl rfl rfl trivial ?_
            rw [e1]
            refine go_s rfl rfl rfl ?_ ?_
            · exact vp_in_nI (by omega) (by omega)
            simp only [cn]
            iterate 5 refine go_s rfl rfl rfl trivial ?_
            rw [e1]
            refine go_s rfl rfl rfl ?_ ?_
            · exact vp_in_nI (by omega) (by omega)
            simp only [cn]
            iterate 4 refine go_s rfl rfl rfl trivial ?_
            rw [e1]
            iterate 2 refine go_s rfl rfl rfl trivial ?_
            rw [e4]
            refine go_s rfl rfl rfl ?_ ?_
            · exact vp_in_nI (by omega) (by omega)
            simp only [cn]
            iterate 2 refine go_s rfl rfl rfl trivial ?_
            have kB : ∀ i, i ≠ 3 → i ≠ 4 → i ≠ 5 → va_up (va_up (va_up B1 3 (upd (B1 3) (xnt (zX Z)) (nI l))) 4 (upd (B1 4) (xnt (zX Z)) (nI g))) 5 (upd (B1 5) (xnt (zX Z)) (nI (zw Z).1)) i = B1 i := fun i a b c => (va_up_ne _ _ c).trans ((va_up_ne _ _ b).trans (va_up_ne _ _ a))
            have k3 : va_up (va_up (va_up B1 3 (upd (B1 3) (xnt (zX Z)) (nI l))) 4 (upd (B1 4) (xnt (zX Z)) (nI g))) 5 (upd (B1 5) (xnt (zX Z)) (nI (zw Z).1)) 3 = upd (B1 3) (xnt (zX Z)) (nI l) := (va_up_ne _ _ (by decide)).trans ((va_up_ne _ _ (by decide)).trans (va_up_self _ _ _))
            have k4 : va_up (va_up (va_up B1 3 (upd (B1 3) (xnt (zX Z)) (nI l))) 4 (upd (B1 4) (xnt (zX Z)) (nI g))) 5 (upd (B1 5) (xnt (zX Z)) (nI (zw Z).1)) 4 = upd (B1 4) (xnt (zX Z)) (nI g) := (va_up_ne _ _ (by decide)).trans (va_up_self _ _ _)
            have k5 : va_up (va_up (va_up B1 3 (upd (B1 3) (xnt (zX Z)) (nI l))) 4 (upd (B1 4) (xnt (zX Z)) (nI g))) 5 (upd (B1 5) (xnt (zX Z)) (nI (zw Z).1)) 5 = upd (B1 5) (xnt (zX Z)) (nI (zw Z).1) := va_up_self _ _ _
            have := l_text88 (T := T) (D := D) (S := S) (Z := z0 Z) hl hg4 hz48 (by show xnt (zX Z) < 40; omega) (zw Z).1 0 I1 (va_up (va_up (va_up B1 3 (upd (B1 3) (xnt (zX Z)) (nI l))) 4 (upd (B1 4) (xnt (zX Z)) (nI g))) 5 (upd (B1 5) (xnt (zX Z)) (nI (zw Z).1))) μ1 ⟨h1.keep2 rfl rfl, h2.keep rfl rfl, h3.keep rfl rfl rfl (fun _ _ _ => rfl), ?_, h5.keep rfl rfl, h6.keep rfl (fun _ _ _ => rfl), h7.keep rfl rfl⟩ (hm1.keep hz48 rfl rfl rfl (fun _ _ _ => rfl)) ?_ ?_ ?_ (fun j hj => absurd hj (Nat.not_lt_zero j)) (by omega)
            · exact this
            · refine h4.keepT rfl rfl (fun i a b t ht => ?_) (fun i a b t ht => congrFun (kB i (by omega) (by omega) (by omega)) t) (fun _ _ => rfl)
              have ht' : t < xnt (zX Z) := ht
              rcases (by omega : i = 3 ∨ i = 4 ∨ i = 5) with rfl | rfl | rfl
              · rw [k3, pk_un (by omega)]
              · rw [k4, pk_un (by omega)]
              · rw [k5, pk_un (by omega)]
            · rw [k3]; exact pk_us
            · rw [k4]; exact pk_us
            · rw [k5]; exact pk_us
          · have : 400 < sumN (xcn (zX Z)) (xnt (zX Z)) + (zw Z).1 := Nat.lt_of_not_le fun q => hc4 ((nI_leI (b := 400) (by omega) (by omega)).mpr q)
            rw [if_pos (Or.inr this)]
            iterate 1 refine go_s rfl rfl rfl trivial ?_
            exact go_r rfl rfl rfl trivial ⟨rfl, I1, B1, μ1, rfl, hZ1⟩
      · exact bad fun q => hc2 q.2.2
end MTEXT
end
section
/-! ===== the reference: type ===== -/
/-- byte k of a long, from the lowest on -/
def byI (v : Int64) (k : Nat) : Nat := v.toBitVec.toNat / 2 ^ (8 * k) % 2 ^ 8
theorem byI_lt (v : Int64) (k : Nat) : byI v k < 256 := Nat.mod_lt _ (by decide)
theorem byI_sb (v : Int64) {k : Nat} (hk : k < 8) : vp_nar .byte (v >>> ((8 * nI k).toInt64 &&& 63)).toInt32.toInt8.toInt32 = sbI (byI v k) := by
  have hs : ((((8 * nI k).toInt64 &&& 63) : Int64).toBitVec.smod 64).toNat = 8 * k := by
    have : ∀ k, k < 8 → ((((8 * nI k).toInt64 &&& 63) : Int64).toBitVec.smod 64).toNat = 8 * k := by decide +kernel
    exact this k hk
  have e : (v >>> ((8 * nI k).toInt64 &&& 63)).toInt32.toInt8 = (nI (byI v k)).toInt8 := by
    apply Int8.toBitVec_inj.mp
    rw [Int32.toBitVec_toInt8, Int32.toBitVec_toInt8, Int64.toBitVec_toInt32, Int64.toBitVec_shiftRight]
    apply BitVec.eq_of_getLsbD_eq
    intro i hi
    have hn : (nI (byI v k)).toBitVec = BitVec.ofNat 32 (byI v k) := rfl
    have h1 : 8 * k + i < 64 := by omega
    have h2 : i < 32 := by omega
    have h3 : ¬ 64 ≤ i := by omega
    have h4 : i + 8 * k < 64 := by omega
    rw [hn]
    rw [BitVec.sshiftRight', hs, BitVec.getLsbD_signExtend, BitVec.getLsbD_signExtend, BitVec.getLsbD_signExtend, BitVec.getLsbD_ofNat, BitVec.getLsbD_sshiftRight, byI, Nat.testBit_mod_two_pow, Nat.testBit_div_two_pow]
    simp [h1, h2, h3, h4, hi, BitVec.getLsbD, Nat.add_comm]
  have h : ∀ z : Int32, vp_nar .byte z.toInt8.toInt32 = z.toInt8.toInt32 := fun z => by
    rw [vp_nar, pk_nb]
  rw [sbI, ← e]
  exact h _

def tapF (tb : Nat → Nat) (n c : Nat) (v : Int64) (j : Nat) : Nat := if j < n then tb j else byI v (n + c - 1 - j)
noncomputable def spType (Z : tx_Z) (v : Int64) (c : Int32) : Int32 × tx_Z := ifp (1 ≤ c ∧ c ≤ 8) (if 96 < (zP Z).2 + c.toNatClampNeg then (-3, Z) else (nI ((zP Z).2 + c.toNatClampNeg), ((tapF (zP Z).1 (zP Z).2 c.toNatClampNeg v, (zP Z).2 + c.toNatClampNeg), Z.2))) (-1, Z)
section MTYPE
variable {T : Nat → am_C} {D : List am_C} {S : Nat → Int64}
theorem l_type32 {Z : tx_Z} {v : Int64} {tb : Nat → Nat} {n c : Nat} (hn : n + c ≤ 96) (hc8 : c ≤ 8) : ∀ (d m : Nat) (I : Nat → Int32) (B : Nat → Nat → Int32) (μ : Nat → List Nat), tx_m ((tapF tb n c v, m), Z.2) I B S μ → m + d = n + c → n ≤ m →
    Go m_Mo_type 32 [some (.ref 48), some (.long v), none, some (.int (nI c)), some (.int (nI d + -1))] [] (hM T I B S D) (fun r h' => r = some (.int (nI (n + c))) ∧ ∃ I' B' μ', h' = hM T I' B' S D ∧ tx_m ((tapF tb n c v, n + c), Z.2) I' B' S μ') := by
  intro d
  induction d with
  | zero =>
    intro m I B μ hZ hd hm
    have em : m = n + c := by omega
    subst em
    iterate 2 refine go_s rfl rfl rfl trivial ?_
    refine go_if (fun hc => ?_) (fun hc => ?_)
    · iterate 2 refine go_s rfl rfl rfl trivial ?_
      exact go_r rfl rfl rfl trivial ⟨by rw [← show I 0 = nI (n + c) from hZ.2.1.1], I, B, μ, rfl, hZ⟩
    · exact absurd (by decide) hc
  | succ d ih =>
    intro m I B μ hZ hd hm
    obtain ⟨h1, h2, h3, h4, h5, h6, h7⟩ := id hZ
    have e0 : I 0 = nI m := h2.1
    have cm : (nI m).toNatClampNeg = m := nI_clamp (by omega)
    rw [pk_m1]
    iterate 2 refine go_s rfl rfl rfl trivial ?_
    refine go_if (fun hc => ?_) (fun hc => ?_)
    · exact absurd hc (nI_pos (by omega))
    · iterate 11 refine go_s rfl rfl rfl trivial ?_
      rw [e0]
      refine go_s rfl rfl rfl ?_ ?_
      · exact vp_in_nI (by omega) (by omega)
      rw [byI_sb v (by omega)]
      simp only [cm]
      iterate 5 refine go_s rfl rfl rfl trivial ?_
      rw [e0, nI_1]
      iterate 3 refine go_s rfl rfl rfl trivial ?_
      refine ih (m + 1) (va_up I 0 (nI (m + 1))) (va_up B 2 (upd (B 2) m (sbI (byI v d)))) μ ⟨h1.keep2 rfl rfl, ⟨va_up_self _ _ _, by show m + 1 ≤ 96; omega, fun j hj => ?_⟩, h3.keep rfl rfl rfl (fun _ _ _ => rfl), h4.keep rfl rfl (fun i a b => va_up_ne _ _ (by omega)) (fun _ _ => rfl), h5.keep rfl rfl, h6.keep rfl (fun _ _ _ => rfl), h7.keep rfl rfl⟩ (by omega) (by omega)
      have hj' : j < m + 1 := hj
      rw [va_up_self]
      by_cases e : j = m
      · subst e
        rw [pk_us]
        have e2 : tapF tb n c v j = byI v d := by
          rw [tapF, if_neg (by omega), show n + c - 1 - j = d by omega]
        rw [show (zP ((tapF tb n c v, j + 1), Z.2)).1 j = tapF tb n c v j from rfl, e2]
        exact ⟨rfl, byI_lt v d⟩
      · rw [pk_un e]
        exact h2.2.2 j (by show j < m; omega)
theorem c_type {Z : tx_Z} {I : Nat → Int32} {B : Nat → Nat → Int32} {μ : Nat → List Nat} (hZ : tx_m Z I B S μ) (v : Int64) (c : Int32) : Do m_Mo_type [.ref 48, .long v, .int c] (hM T I B S D) (fun r h' => r = some (.int (spType Z v c).1) ∧ ∃ I' B' μ', h' = hM T I' B' S D ∧ tx_m (spType Z v c).2 I' B' S μ') := by
  have bad : ¬ (1 ≤ c ∧ c ≤ 8) → Go m_Mo_type 11 [some (.ref 48), some (.long v), none, some (.int c), none] [] (hM T I B S D) (fun r h' => r = some (.int (spType Z v c).1) ∧ ∃ I' B' μ', h' = hM T I' B' S D ∧ tx_m (spType Z v c).2 I' B' S μ') := by
    intro q
    rw [spType, ifp_f q]
    iterate 1 refine go_s rfl rfl rfl trivial ?_
    exact go_r rfl rfl rfl trivial ⟨rfl, I, B, μ, rfl, hZ⟩
  obtain ⟨h1, h2, h3, h4, h5, h6, h7⟩ := id hZ
  have e0 : I 0 = nI (zP Z).2 := h2.1
  have h96 : (zP Z).2 ≤ 96 := h2.2.1
  iterate 3 refine go_s rfl rfl rfl trivial ?_
  refine go_if (fun q1 => bad fun q => absurd q1 (Int32.not_lt.mpr q.1)) (fun q1 => ?_)
  iterate 3 refine go_s rfl rfl rfl trivial ?_
  refine go_if (fun q2 => ?_) (fun q2 => bad fun q => q2 q.2)
  have h1c : (1 : Int32) ≤ c := Int32.not_lt.mp q1
  have hc0 : ¬ c < 0 := fun q => q1 (Int32.lt_trans q (by decide))
  obtain ⟨k, hk, rfl⟩ := nI_of hc0
  have hk8 : k ≤ 8 := (nI_leI (b := 8) hk (by omega)).mp q2
  have hk1 : 1 ≤ k := (nI_leI (a := 1) (by omega) hk).mp h1c
  have ck : (nI k).toNatClampNeg = k := nI_clamp hk
  rw [spType, ifp_t ⟨h1c, q2⟩, ck]
  iterate 2 refine go_s rfl rfl rfl trivial ?_
  rw [e0]
  iterate 2 refine go_s rfl rfl rfl trivial ?_
  rw [nI_add]
  iterate 2 refine go_s rfl rfl rfl trivial ?_
  refine go_if (fun q3 => ?_) (fun q3 => ?_)
  · have h3' : (zP Z).2 + k ≤ 96 := (nI_leI (b := 96) (by omega) (by omega)).mp q3
    rw [if_neg (by omega)]
    iterate 4 refine go_s rfl rfl rfl trivial ?_
    rw [show nI k - 1 = nI k + -1 from Int32.sub_eq_add_neg _ _]
    have := l_type32 (T := T) (D := D) (S := S) (Z := Z) (v := v) (tb := (zP Z).1) (n := (zP Z).2) (c := k) h3' hk8 k (zP Z).2 I B μ ⟨h1, ⟨e0, h96, fun j hj => ?_⟩, h3, h4, h5, h6, h7⟩ rfl (Nat.le_refl _)
    · exact this
    · have e : tapF (zP Z).1 (zP Z).2 k v j = (zP Z).1 j := if_pos hj
      show B 2 j = sbI (tapF (zP Z).1 (zP Z).2 k v j) ∧ tapF (zP Z).1 (zP Z).2 k v j < 256
      rw [e]
      exact h2.2.2 j hj
  · have h3' : 96 < (zP Z).2 + k := Nat.lt_of_not_le fun q => q3 ((nI_leI (b := 96) (by omega) (by omega)).mpr q)
    rw [if_pos h3']
    iterate 1 refine go_s rfl rfl rfl trivial ?_
    exact go_r rfl rfl rfl trivial ⟨rfl, I, B, μ, rfl, hZ⟩
end MTYPE
end
section
/-! ===== a question, as it is read from the tape ===== -/
/-- the byte at a place (256: none), the letter there (0: none) -/
def sy (P : tx_P) (p : Nat) : Nat := if p < P.2 then P.1 p else 256
def lq (P : tx_P) (p : Nat) : Nat := if p < P.2 then ltr (P.1 p) else 0
def skF (P : tx_P) : Nat → Nat → Nat
  | 0, p => p
  | f + 1, p => if sy P p = 32 then skF P f (p + 1) else p
/-- behind the blanks -/
def sk (P : tx_P) (p : Nat) : Nat := skF P (P.2 - p) p
def wlF (P : tx_P) : Nat → Nat → Nat
  | 0, _ => 0
  | f + 1, p => if lq P p = 0 then 0 else wlF P f (p + 1) + 1
/-- how many letters stand here -/
def wl (P : tx_P) (p : Nat) : Nat := wlF P (P.2 - p) p
def wrd (P : tx_P) (p r : Nat) : List Nat := (List.range r).map fun j => lq P (p + j)
theorem sy_out {P : tx_P} {p : Nat} (h : P.2 ≤ p) : sy P p = 256 := if_neg (by omega)
theorem lq_out {P : tx_P} {p : Nat} (h : P.2 ≤ p) : lq P p = 0 := if_neg (by omega)
theorem sk_yes {P : tx_P} {p : Nat} (h : sy P p = 32) : sk P p = sk P (p + 1) := by
  have hp : p < P.2 := Nat.lt_of_not_le fun q => by rw [sy_out q] at h; omega
  rw [sk, show P.2 - p = (P.2 - (p + 1)) + 1 by omega, skF, if_pos h]
  rfl
theorem sk_no {P : tx_P} {p : Nat} (h : sy P p ≠ 32) : sk P p = p := by
  rw [sk]
  cases P.2 - p with
  | zero => rfl
  | succ f => rw [skF, if_neg h]
theorem wl_no {P : tx_P} {p : Nat} (h : lq P p = 0) : wl P p = 0 := by
  rw [wl]
  cases P.2 - p with
  | zero => rfl
  | succ f => rw [wlF, if_pos h]
theorem wl_yes {P : tx_P} {p : Nat} (h : lq P p ≠ 0) : wl P p = wl P (p + 1) + 1 := by
  have hp : p < P.2 := Nat.lt_of_not_le fun q => h (lq_out q)
  rw [wl, show P.2 - p = (P.2 - (p + 1)) + 1 by omega, wlF, if_neg h]
  rfl
theorem sk_all (P : tx_P) : ∀ d p, P.2 - p = d → sy P (sk P p) ≠ 32 ∧ p ≤ sk P p ∧ (p ≤ P.2 → sk P p ≤ P.2) := by
  intro d
  induction d with
  | zero =>
    intro p hd
    have h : sy P p ≠ 32 := by rw [sy_out (by omega)]; decide
    rw [sk_no h]
    exact ⟨h, Nat.le_refl _, fun h => h⟩
  | succ d ih =>
    intro p hd
    by_cases h : sy P p = 32
    · rw [sk_yes h]
      obtain ⟨a, b, c⟩ := ih (p + 1) (by omega)
      exact ⟨a, by omega, fun _ => c (by omega)⟩
    · rw [sk_no h]
      exact ⟨h, Nat.le_refl _, fun h => h⟩
theorem sk_stop (P : tx_P) (p : Nat) : sy P (sk P p) ≠ 32 := (sk_all P _ p rfl).1
theorem sk_ge (P : tx_P) (p : Nat) : p ≤ sk P p := (sk_all P _ p rfl).2.1
theorem sk_le {P : tx_P} {p : Nat} (h : p ≤ P.2) : sk P p ≤ P.2 := (sk_all P _ p rfl).2.2 h
theorem sk_sk (P : tx_P) (p : Nat) : sk P (sk P p) = sk P p := sk_no (sk_stop P p)
theorem wl_all (P : tx_P) : ∀ d p, P.2 - p = d → lq P (p + wl P p) = 0 ∧ (p ≤ P.2 → p + wl P p ≤ P.2) := by
  intro d
  induction d with
  | zero =>
    intro p hd
    have h : lq P p = 0 := lq_out (by omega)
    rw [wl_no h]
    exact ⟨h, fun h => h⟩
  | succ d ih =>
    intro p hd
    by_cases h : lq P p = 0
    · rw [wl_no h]
      exact ⟨h, fun h => h⟩
    · rw [wl_yes h]
      obtain ⟨a, b⟩ := ih (p + 1) (by omega)
      rw [show p + 1 + wl P (p + 1) = p + (wl P (p + 1) + 1) by omega] at a b
      exact ⟨a, fun _ => b (by omega)⟩
theorem wl_end (P : tx_P) (p : Nat) : lq P (p + wl P p) = 0 := (wl_all P _ p rfl).1
theorem wl_le {P : tx_P} {p : Nat} (h : p ≤ P.2) : p + wl P p ≤ P.2 := (wl_all P _ p rfl).2 h
theorem wrd_len (P : tx_P) (p r : Nat) : (wrd P p r).length = r := by simp [wrd]
theorem wrd_succ (P : tx_P) (p r : Nat) : wrd P p (r + 1) = wrd P p r ++ [lq P (p + r)] := by simp [wrd, List.range_succ]
theorem lq_lt {P : tx_P} (hP : ∀ j, j < P.2 → P.1 j < 256) (p : Nat) : lq P p < 128 := by
  rw [lq]
  split
  · exact ltr_lt (hP p ‹_›)
  · decide
/-- a letter is no sign -/
theorem lq_sy {P : tx_P} {p : Nat} (h : lq P p ≠ 0) : sy P p ≠ 32 ∧ sy P p ≠ 34 ∧ sy P p ≠ 42 ∧ sy P p ≠ 45 ∧ sy P p ≠ 124 ∧ p < P.2 := by
  have hp : p < P.2 := Nat.lt_of_not_le fun q => h (lq_out q)
  rw [lq, if_pos hp] at h
  rw [sy, if_pos hp]
  refine ⟨?_, ?_, ?_, ?_, ?_, hp⟩ <;> intro e <;> rw [e] at h <;> exact h rfl
def hereI (P : tx_P) (p : Nat) : Int32 := if p < P.2 then sbI (P.1 p) else -1
theorem hereI_eq {P : tx_P} (hP : ∀ j, j < P.2 → P.1 j < 256) {p c : Nat} (hc : c < 128) : hereI P p = nI c ↔ sy P p = c := by
  rw [hereI, sy]
  split
  · rename_i h
    have key : ∀ b, b < 256 → ∀ c, c < 128 → (sbI b = nI c ↔ b = c) := by decide +kernel
    exact key _ (hP p h) c hc
  · have key : ∀ c, c < 128 → ((-1 : Int32) = nI c ↔ 256 = c) := by decide +kernel
    exact key c hc
theorem up_idG {α : Type} (f : Nat → α) (a : Nat) : va_up f a (f a) = f := by
  funext j
  by_cases e : j = a
  · subst e; rw [va_up_self]
  · rw [va_up_ne _ _ e]
section MQ1
variable {T : Nat → am_C} {D : List am_C} {I : Nat → Int32} {B : Nat → Nat → Int32} {S : Nat → Int64} {P : tx_P}
theorem gP.lt {I : Nat → Int32} {B : Nat → Nat → Int32} (h : gP P I B) : ∀ j, j < P.2 → P.1 j < 256 := fun j hj => (h.2.2 j hj).2
theorem c_here (hP : gP P I B) {p : Nat} (hp : p < 1000) (h7 : I 7 = nI p) : Do m_Mo_here [.ref 48] (hM T I B S D) (fun r h' => r = some (.int (hereI P p)) ∧ h' = hM T I B S D) := by
  obtain ⟨p1, p2, p3⟩ := hP
  have cp : (nI p).toNatClampNeg = p := nI_clamp (by omega)
  iterate 2 refine go_s rfl rfl rfl trivial ?_
  rw [h7]
  iterate 2 refine go_s rfl rfl rfl trivial ?_
  rw [p1]
  iterate 1 refine go_s rfl rfl rfl trivial ?_
  refine go_if (fun hc => ?_) (fun hc => ?_)
  · have : P.2 ≤ p := (nI_leI (by omega) (by omega)).mp hc
    iterate 1 refine go_s rfl rfl rfl trivial ?_
    refine go_r rfl rfl rfl trivial ⟨?_, rfl⟩
    rw [hereI, if_neg (by omega)]
  · have : p < P.2 := Nat.lt_of_not_le fun q => hc ((nI_leI (by omega) (by omega)).mpr q)
    iterate 4 refine go_s rfl rfl rfl trivial ?_
    rw [h7]
    refine go_s rfl rfl rfl ?_ ?_
    · exact vp_in_nI (by omega) (by omega)
    iterate 1 refine go_s rfl rfl rfl trivial ?_
    refine go_r rfl rfl rfl trivial ⟨?_, rfl⟩
    rw [cp, (p3 p this).1, hereI, if_pos this]
theorem c_isLetter (hP : gP P I B) {p : Nat} (hp : p < 1000) (h7 : I 7 = nI p) : Do m_Mo_isLetter [.ref 48] (hM T I B S D) (fun r h' => r = some (.int (b01 (lq P p ≠ 0))) ∧ h' = hM T I B S D) := by
  obtain ⟨p1, p2, p3⟩ := hP
  have cp : (nI p).toNatClampNeg = p := nI_clamp (by omega)
  iterate 2 refine go_s rfl rfl rfl trivial ?_
  rw [h7]
  iterate 2 refine go_s rfl rfl rfl trivial ?_
  rw [p1]
  iterate 1 refine go_s rfl rfl rfl trivial ?_
  refine go_if (fun hc => ?_) (fun hc => ?_)
  · have : P.2 ≤ p := (nI_leI (by omega) (by omega)).mp hc
    iterate 1 refine go_s rfl rfl rfl trivial ?_
    refine go_r rfl rfl rfl (Or.inl rfl) ⟨?_, rfl⟩
    rw [b01_f (fun q => q (lq_out this))]
  · have hpn : p < P.2 := Nat.lt_of_not_le fun q => hc ((nI_leI (by omega) (by omega)).mpr q)
    obtain ⟨y1, y2⟩ := p3 p hpn
    have e : lq P p = ltr (P.1 p) := if_pos hpn
    have := ltr_lt y2
    iterate 4 refine go_s rfl rfl rfl trivial ?_
    rw [h7]
    refine go_s rfl rfl rfl ?_ ?_
    · exact vp_in_nI (by omega) (by omega)
    simp only [cp, y1]
    refine go_c rfl rfl rfl (c_letter _ _) ?_
    rintro r h3 ⟨rfl, rfl⟩
    rw [lteI_sb y2]
    iterate 1 refine go_s rfl rfl rfl trivial ?_
    refine go_if (fun hc2 => ?_) (fun hc2 => ?_)
    · have : ltr (P.1 p) = 0 := nI_inj (by omega) (by omega) hc2
      iterate 1 refine go_s rfl rfl rfl trivial ?_
      refine go_r rfl rfl rfl (Or.inl rfl) ⟨?_, rfl⟩
      rw [b01_f (fun q => q (by rw [e]; exact this))]
    · iterate 2 refine go_s rfl rfl rfl trivial ?_
      refine go_r rfl rfl rfl (Or.inr rfl) ⟨?_, rfl⟩
      rw [b01_t (fun q => hc2 (by rw [e] at q; rw [q]; rfl))]
theorem c_need1 (T : Nat → am_C) (D : List am_C) (I : Nat → Int32) (B : Nat → Nat → Int32) (S : Nat → Int64) : Do m_Mo_need [.ref 48, .int 1] (hM T I B S D) (fun r h' => r = none ∧ h' = hM T I B S D) := by
  iterate 3 refine go_s rfl rfl rfl trivial ?_
  refine go_if (fun hc => ?_) (fun hc => ?_)
  · exact go_r rfl rfl rfl trivial ⟨rfl, rfl⟩
  · iterate 2 refine go_s rfl rfl rfl trivial ?_
    refine go_if (fun hc => ?_) (fun hc => ?_)
    · exact go_r rfl rfl rfl trivial ⟨rfl, rfl⟩
    · exact absurd (by decide) hc
theorem c_needF (g : Int32) {f : Nat} (hf : f < 1000) (h8 : I 8 = nI f) : Do m_Mo_need [.ref 48, .int g] (hM T I B S D) (fun r h' => r = none ∧ h' = hM T I B S D) := by
  iterate 2 refine go_s rfl rfl rfl trivial ?_
  rw [h8]
  iterate 1 refine go_s rfl rfl rfl trivial ?_
  refine go_if (fun hc => ?_) (fun hc => ?_)
  · exact go_r rfl rfl rfl trivial ⟨rfl, rfl⟩
  · exact absurd (Int32.not_lt.mp (nI_pos (by omega))) hc
theorem c_need0 (h8 : I 8 = -1) : Do m_Mo_need [.ref 48, .int 0] (hM T I B S D) (fun r h' => r = none ∧ h' = hM T (va_up I 8 (I 7)) B S D) := by
  iterate 2 refine go_s rfl rfl rfl trivial ?_
  rw [h8]
  iterate 1 refine go_s rfl rfl rfl trivial ?_
  refine go_if (fun hc => ?_) (fun hc => ?_)
  · exact absurd hc (by decide)
  · iterate 2 refine go_s rfl rfl rfl trivial ?_
    refine go_if (fun hc => ?_) (fun hc => ?_)
    · exact absurd rfl hc
    · iterate 4 refine go_s rfl rfl rfl trivial ?_
      exact go_r rfl rfl rfl trivial ⟨rfl, rfl⟩
theorem l_skip (hn : P.2 ≤ 96) : ∀ (d p : Nat) (I : Nat → Int32), P.2 - p = d → p < 900 → gP P I B → I 7 = nI p → Go m_Mo_skip 0 [some (.ref 48)] [] (hM T I B S D) (fun r h' => r = none ∧ h' = hM T (va_up I 7 (nI (sk P p))) B S D) := by
  intro d
  induction d with
  | zero =>
    intro p I hd hp hP h7
    have h : sy P p ≠ 32 := by rw [sy_out (by omega)]; decide
    iterate 1 refine go_s rfl rfl rfl trivial ?_
    refine go_c rfl rfl rfl (c_here hP (by omega) h7) ?_
    rintro r h3 ⟨rfl, rfl⟩
    iterate 2 refine go_s rfl rfl rfl trivial ?_
    refine go_if (fun hc => ?_) (fun hc => ?_)
    · refine go_r rfl rfl rfl trivial ⟨rfl, ?_⟩
      rw [sk_no h, ← h7, up_idG]
    · exact absurd ((hereI_eq hP.lt (by decide)).mp (Classical.not_not.mp hc)) h
  | succ d ih =>
    intro p I hd hp hP h7
    iterate 1 refine go_s rfl rfl rfl trivial ?_
    refine go_c rfl rfl rfl (c_here hP (by omega) h7) ?_
    rintro r h3 ⟨rfl, rfl⟩
    iterate 2 refine go_s rfl rfl rfl trivial ?_
    refine go_if (fun hc => ?_) (fun hc => ?_)
    · have h : sy P p ≠ 32 := fun q => hc ((hereI_eq hP.lt (by decide)).mpr q)
      refine go_r rfl rfl rfl trivial ⟨rfl, ?_⟩
      rw [sk_no h, ← h7, up_idG]
    · have h : sy P p = 32 := (hereI_eq hP.lt (by decide)).mp (Classical.not_not.mp hc)
      iterate 5 refine go_s rfl rfl rfl trivial ?_
      rw [h7, nI_1]
      iterate 2 refine go_s rfl rfl rfl trivial ?_
      refine (ih (p + 1) (va_up I 7 (nI (p + 1))) (by omega) (by omega) (hP.keep rfl rfl) (va_up_self _ _ _)).mono fun r h' g => ?_
      rw [sk_yes h]
      rw [bx_uu] at g
      exact g
theorem c_skip (hP : gP P I B) {p : Nat} (hp : p < 900) (h7 : I 7 = nI p) : Do m_Mo_skip [.ref 48] (hM T I B S D) (fun r h' => r = none ∧ h' = hM T (va_up I 7 (nI (sk P p))) B S D) := l_skip hP.2.1 _ p I rfl hp hP h7
theorem c_isPart (hP : gP P I B) {p : Nat} (hp : p < 1000) (h7 : I 7 = nI p) : Do m_Mo_isPart [.ref 48] (hM T I B S D) (fun r h' => r = some (.int (b01 (sy P p = 45 ∨ sy P p = 34 ∨ lq P p ≠ 0))) ∧ h' = hM T I B S D) := by
  iterate 1 refine go_s rfl rfl rfl trivial ?_
  refine go_c rfl rfl rfl (c_here hP (by omega) h7) ?_
  rintro r h3 ⟨rfl, rfl⟩
  iterate 2 refine go_s rfl rfl rfl trivial ?_
  refine go_if (fun hc => ?_) (fun hc => ?_)
  · iterate 2 refine go_s rfl rfl rfl trivial ?_
    refine go_r rfl rfl rfl (Or.inr rfl) ⟨?_, rfl⟩
    rw [b01_t (Or.inl ((hereI_eq hP.lt (by decide)).mp hc))]
  · have h1 : ¬ sy P p = 45 := fun q => hc ((hereI_eq hP.lt (by decide)).mpr q)
    iterate 1 refine go_s rfl rfl rfl trivial ?_
    refine go_c rfl rfl rfl (c_here hP (by omega) h7) ?_
    rintro r h3 ⟨rfl, rfl⟩
    iterate 2 refine go_s rfl rfl rfl trivial ?_
    refine go_if (fun hc2 => ?_) (fun hc2 => ?_)
    · iterate 2 refine go_s rfl rfl rfl trivial ?_
      refine go_r rfl rfl rfl (Or.inr rfl) ⟨?_, rfl⟩
      rw [b01_t (Or.inr (Or.inl ((hereI_eq hP.lt (by decide)).mp hc2)))]
    · have h2 : ¬ sy P p = 34 := fun q => hc2 ((hereI_eq hP.lt (by decide)).mpr q)
      iterate 1 refine go_s rfl rfl rfl trivial ?_
      refine go_c rfl rfl rfl (c_isLetter hP (by omega) h7) ?_
      rintro r h3 ⟨rfl, rfl⟩
      iterate 1 refine go_s rfl rfl rfl trivial ?_
      refine go_if (fun hc3 => ?_) (fun hc3 => ?_)
      · iterate 1 refine go_s rfl rfl rfl trivial ?_
        refine go_r rfl rfl rfl (Or.inl rfl) ⟨?_, rfl⟩
        rw [b01_f]
        rintro (q | q | q)
        · exact h1 q
        · exact h2 q
        · exact b01_eq0.mp hc3 q
      · iterate 2 refine go_s rfl rfl rfl trivial ?_
        refine go_r rfl rfl rfl (Or.inr rfl) ⟨?_, rfl⟩
        rw [b01_t (Or.inr (Or.inr (Classical.not_not.mp fun q => hc3 (b01_f q))))]
end MQ1
end
section
/-! ===== the reference: a word of a question ===== -/
/-- what reading a word of a question changes: np the part, a the place of the word -/
def rwq (I : Nat → Int32) (B : Nat → Nat → Int32) (μ : Nat → List Nat) (np a : Nat) (I' : Nat → Int32) (B' : Nat → Nat → Int32) (μ' : Nat → List Nat) : Prop := (∀ i, i ≠ 6 → i ≠ 7 → i ≠ 8 → I' i = I i) ∧ (∀ i, 2 ≤ i → i ≠ 15 → B' i = B i) ∧ B' 15 = upd (B 15) np (B 15 np + 1) ∧ wm B' μ' ∧ (∀ x, x ≠ 4016 + a → μ' x = μ x) ∧ I' 6 = nI (min (a + 1) 47)
section MQ2
variable {T : Nat → am_C} {D : List am_C} {S : Nat → Int64} {P : tx_P}
theorem l_rw100 {I I0 : Nat → Int32} {B B0 : Nat → Nat → Int32} {μ μ0 : Nat → List Nat} {np a : Nat} (hnp : np < 96) (ha : a ≤ 47) (h5 : I 5 = nI np) (h6 : I 6 = nI a) (hI : ∀ i, i ≠ 6 → i ≠ 7 → i ≠ 8 → I i = I0 i) (hB : ∀ i, 2 ≤ i → B i = B0 i) (hw : wm B μ) (hm : ∀ x, x ≠ 4016 + a → μ x = μ0 x) :
    Go m_Mo_readWord 100 [some (.ref 48)] [] (hM T I B S D) (fun r h' => r = none ∧ ∃ I' B' μ', h' = hM T I' B' S D ∧ rwq I0 B0 μ0 np a I' B' μ' ∧ I' 7 = I 7 ∧ I' 8 = I 8 ∧ μ' = μ) := by
  have cn : (nI np).toNatClampNeg = np := nI_clamp (by omega)
  have fin : ∀ b : Nat, a + b = min (a + 1) 47 → Go m_Mo_readWord 119 [some (.ref 48)] [.int (nI b), .int (nI a), .ref 48] (hM T I B S D) (fun r h' => r = none ∧ ∃ I' B' μ', h' = hM T I' B' S D ∧ rwq I0 B0 μ0 np a I' B' μ' ∧ I' 7 = I 7 ∧ I' 8 = I 8 ∧ μ' = μ) := by
    intro b hb
    iterate 1 refine go_s rfl rfl rfl trivial ?_
    rw [nI_add, hb]
    iterate 6 refine go_s rfl rfl rfl trivial ?_
    change Go m_Mo_readWord 132 [some (.ref 48)] [.int (I 5), .ref 64, .int (I 5), .ref 64] (hM T (va_up I 6 (nI (min (a + 1) 47))) B S D) _
    rw [h5]
    refine go_s rfl rfl rfl ?_ ?_
    · exact vp_in_nI (by omega) (by omega)
    simp only [cn]
    iterate 2 refine go_s rfl rfl rfl trivial ?_
    refine go_s rfl rfl rfl ?_ ?_
    · exact vp_in_nI (by omega) (by omega)
    simp only [cn]
    refine go_r rfl rfl rfl trivial ⟨rfl, va_up I 6 (nI (min (a + 1) 47)), va_up B 15 (upd (B 15) np (B 15 np + 1)), μ, rfl, ⟨fun i h6 h7 h8 => (va_up_ne _ _ h6).trans (hI i h6 h7 h8), fun i h2 h15 => (va_up_ne _ _ h15).trans (hB i h2), ?_, hw.keep2 rfl rfl, hm, va_up_self _ _ _⟩, va_up_ne _ _ (by decide), va_up_ne _ _ (by decide), rfl⟩
    rw [va_up_self, hB 15 (by decide)]
  iterate 3 refine go_s rfl rfl rfl trivial ?_
  rw [h6]
  iterate 2 refine go_s rfl rfl rfl trivial ?_
  rw [h6]
  iterate 2 refine go_s rfl rfl rfl trivial ?_
  refine go_if (fun hc => ?_) (fun hc => ?_)
  · have : a = 47 := by
      have := (nI_leI (a := 47) (b := a) (by omega) (by omega)).mp hc
      omega
    iterate 1 refine go_s rfl rfl rfl trivial ?_
    exact fin 0 (by omega)
  · have : a < 47 := Nat.lt_of_not_le fun q => hc ((nI_leI (a := 47) (b := a) (by omega) (by omega)).mpr q)
    iterate 2 refine go_s rfl rfl rfl trivial ?_
    exact fin 1 (by omega)
def rwA (P : tx_P) (p : Nat) (I : Nat → Int32) (B : Nat → Nat → Int32) (μ : Nat → List Nat) (np a : Nat) (I' : Nat → Int32) (B' : Nat → Nat → Int32) (μ' : Nat → List Nat) : Prop := rwq I B μ np a I' B' μ' ∧ ((0 < wl P p ∧ wl P p ≤ 12 ∧ I' 7 = nI (p + wl P p) ∧ I' 8 = -1 ∧ μ' (4016 + a) = wrd P p (wl P p)) ∨ ((wl P p = 0 ∨ 12 < wl P p) ∧ ∃ q, q < 200 ∧ I' 7 = nI q ∧ I' 8 = nI (if wl P p = 0 then p else p + 12)))
theorem l_rw22 {I0 : Nat → Int32} {B0 : Nat → Nat → Int32} {μ0 : Nat → List Nat} {np a p : Nat} (hnp : np < 96) (ha : a ≤ 47) (hp : p < 100) (hl : 0 < wl P p) : ∀ (d k : Nat) (I : Nat → Int32) (B : Nat → Nat → Int32) (μ : Nat → List Nat), P.2 - (p + k) = d → gP P I B → wl P p = k + wl P (p + k) → k ≤ 12 → I 5 = nI np → I 6 = nI a → I 7 = nI (p + k) → I 8 = -1 → (∀ i, i ≠ 6 → i ≠ 7 → i ≠ 8 → I i = I0 i) → (∀ i, 2 ≤ i → B i = B0 i) → wm B μ → (∀ x, x ≠ 4016 + a → μ x = μ0 x) → μ (4016 + a) = wrd P p k →
    Go m_Mo_readWord 22 [some (.ref 48)] [] (hM T I B S D) (fun r h' => r = none ∧ ∃ I' B' μ', h' = hM T I' B' S D ∧ rwA P p I0 B0 μ0 np a I' B' μ') := by
  have e4 : (4016 : Int32) + nI a = nI (4016 + a) := by rw [show (4016 : Int32) = nI 4016 from rfl, nI_add]
  have c4 : (nI (4016 + a)).toNatClampNeg = 4016 + a := nI_clamp (by omega)
  have body : ∀ (k : Nat) (I : Nat → Int32) (B : Nat → Nat → Int32) (μ : Nat → List Nat), gP P I B → wl P p = k + wl P (p + k) → k ≤ 12 → I 5 = nI np → I 6 = nI a → I 7 = nI (p + k) → I 8 = -1 → (∀ i, i ≠ 6 → i ≠ 7 → i ≠ 8 → I i = I0 i) → (∀ i, 2 ≤ i → B i = B0 i) → wm B μ → (∀ x, x ≠ 4016 + a → μ x = μ0 x) → μ (4016 + a) = wrd P p k →
      (lq P (p + k) ≠ 0 → k < 12 → ∀ (I : Nat → Int32) (B : Nat → Nat → Int32) (μ : Nat → List Nat), gP P I B → wl P p = k + 1 + wl P (p + (k + 1)) → k + 1 ≤ 12 → I 5 = nI np → I 6 = nI a → I 7 = nI (p + (k + 1)) → I 8 = -1 → (∀ i, i ≠ 6 → i ≠ 7 → i ≠ 8 → I i = I0 i) → (∀ i, 2 ≤ i → B i = B0 i) → wm B μ → (∀ x, x ≠ 4016 + a → μ x = μ0 x) → μ (4016 + a) = wrd P p (k + 1) → Go m_Mo_readWord 22 [some (.ref 48)] [] (hM T I B S D) (fun r h' => r = none ∧ ∃ I' B' μ', h' = hM T I' B' S D ∧ rwA P p I0 B0 μ0 np a I' B' μ')) →
      Go m_Mo_readWord 22 [some (.ref 48)] [] (hM T I B S D) (fun r h' => r = none ∧ ∃ I' B' μ', h' = hM T I' B' S D ∧ rwA P p I0 B0 μ0 np a I' B' μ') := by
    intro k I B μ hP hk k12 h5 h6 h7 h8 hI hB hw hm hμ next
    have cp : (nI (p + k)).toNatClampNeg = p + k := nI_clamp (by omega)
    iterate 2 refine go_s rfl rfl rfl trivial ?_
    rw [h8]
    iterate 1 refine go_s rfl rfl rfl trivial ?_
    refine go_if (fun hc => ?_) (fun hc => ?_)
    · exact absurd hc (by decide)
    · iterate 1 refine go_s rfl rfl rfl trivial ?_
      refine go_c rfl rfl rfl (c_isLetter hP (by omega) h7) ?_
      rintro r h3 ⟨rfl, rfl⟩
      iterate 1 refine go_s rfl rfl rfl trivial ?_
      refine go_if (fun hc => ?_) (fun hc => ?_)
      · have hz : lq P (p + k) = 0 := Classical.not_not.mp (b01_eq0.mp hc)
        rw [wl_no hz] at hk
        refine Go.mono (l_rw100 hnp ha h5 h6 hI hB hw hm) fun r h' h => ?_
        obtain ⟨g1, I1, B1, μ1, g2, g3, g4, g5, rfl⟩ := h
        refine ⟨g1, I1, B1, _, g2, g3, Or.inl ⟨hl, by omega, ?_, g5.trans h8, ?_⟩⟩
        · rw [g4, h7, hk]; rfl
        · rw [hμ, hk]; rfl
      · have hnz : lq P (p + k) ≠ 0 := fun q => hc (b01_f (fun q2 => q2 q))
        have hpn : p + k < P.2 := (lq_sy hnz).2.2.2.2.2
        have hn96 : P.2 ≤ 96 := hP.2.1
        have ew := wl_yes hnz
        obtain ⟨w12, wL, -, -⟩ := hw (4016 + a) (by omega)
        rw [hμ, wrd_len] at w12 wL
        obtain ⟨y1, y2⟩ := hP.2.2 (p + k) hpn
        have e : lq P (p + k) = ltr (P.1 (p + k)) := if_pos hpn
        have hlt := ltr_lt y2
        iterate 6 refine go_s rfl rfl rfl trivial ?_
        rw [h6]
        iterate 1 refine go_s rfl rfl rfl trivial ?_
        rw [e4]
        refine go_s rfl rfl rfl ?_ ?_
        · exact vp_in_nI (by omega) (by omega)
        simp only [c4, wL]
        iterate 2 refine go_s rfl rfl rfl trivial ?_
        refine go_if (fun hc2 => ?_) (fun hc2 => ?_)
        · have ek : k = 12 := by
            have := (nI_leI (a := 12) (b := k) (by omega) (by omega)).mp hc2
            omega
          iterate 1 refine go_s rfl rfl rfl trivial ?_
          refine go_c rfl rfl rfl (c_need0 h8) ?_
          rintro r h3 ⟨rfl, rfl⟩
          rw [h7]
          iterate 4 refine go_s rfl rfl rfl trivial ?_
          rw [show va_up I 8 (nI (p + k)) 6 = nI a from (va_up_ne _ _ (by decide)).trans h6]
          iterate 1 refine go_s rfl rfl rfl trivial ?_
          rw [e4]
          iterate 4 refine go_s rfl rfl rfl trivial ?_
          rw [show va_up I 8 (nI (p + k)) 7 = nI (p + k) from (va_up_ne _ _ (by decide)).trans h7]
          refine go_s rfl rfl rfl ?_ ?_
          · exact vp_in_nI (by omega) (by omega)
          simp only [cp, y1]
          refine go_c rfl rfl rfl (c_letter _ _) ?_
          rintro r h3 ⟨rfl, rfl⟩
          rw [lteI_sb y2]
          refine go_c rfl rfl rfl (c_add hw (a := 4016 + a) (by omega) hlt) ?_
          rintro r h3 ⟨rfl, B1, rfl, hs1, hw1⟩
          rw [if_pos (by rw [hμ, wrd_len]; exact ek), up_idG] at hw1
          iterate 3 refine go_s rfl rfl rfl trivial ?_
          rw [show va_up I 8 (nI (p + k)) 7 = nI (p + k) from (va_up_ne _ _ (by decide)).trans h7]
          iterate 2 refine go_s rfl rfl rfl trivial ?_
          rw [nI_1]
          iterate 2 refine go_s rfl rfl rfl trivial ?_
          iterate 2 refine go_s rfl rfl rfl trivial ?_
          rw [show va_up I 8 (nI (p + k)) 8 = nI (p + k) from va_up_self _ _ _]
          iterate 1 refine go_s rfl rfl rfl trivial ?_
          refine go_if (fun hc3 => ?_) (fun hc3 => ?_)
          · refine Go.mono (l_rw100 (I := va_up (va_up I 8 (nI (p + k))) 7 (nI (p + k + 1))) (I0 := I0) (B0 := B0) (μ0 := μ0) hnp ha ((va_up_ne _ _ (by decide)).trans ((va_up_ne _ _ (by decide)).trans h5)) ((va_up_ne _ _ (by decide)).trans ((va_up_ne _ _ (by decide)).trans h6)) (fun i a b c => (va_up_ne _ _ b).trans ((va_up_ne _ _ c).trans (hI i a b c))) (fun i h2 => (hs1 i h2).trans (hB i h2)) hw1 hm) fun r h' h => ?_
            obtain ⟨g1, I1, B2, μ1, g2, g3, g4, g5, rfl⟩ := h
            refine ⟨g1, I1, B2, _, g2, g3, Or.inr ⟨Or.inr (by omega), p + k + 1, by omega, ?_, ?_⟩⟩
            · rw [g4, va_up_self]
            · rw [g5, va_up_ne _ _ (by decide), va_up_self, if_neg (by omega), ek]
          · exact absurd (Int32.not_lt.mp (nI_pos (by omega))) hc3
        · have k12' : k < 12 := Nat.lt_of_not_le fun q => hc2 ((nI_leI (a := 12) (b := k) (by omega) (by omega)).mpr q)
          iterate 2 refine go_s rfl rfl rfl trivial ?_
          refine go_c rfl rfl rfl (c_need1 _ _ _ _ _) ?_
          rintro r h3 ⟨rfl, rfl⟩
          iterate 4 refine go_s rfl rfl rfl trivial ?_
          rw [h6]
          iterate 1 refine go_s rfl rfl rfl trivial ?_
          rw [e4]
          iterate 4 refine go_s rfl rfl rfl trivial ?_
          rw [h7]
          refine go_s rfl rfl rfl ?_ ?_
          · exact vp_in_nI (by omega) (by omega)
          simp only [cp, y1]
          refine go_c rfl rfl rfl (c_letter _ _) ?_
          rintro r h3 ⟨rfl, rfl⟩
          rw [lteI_sb y2]
          refine go_c rfl rfl rfl (c_add hw (a := 4016 + a) (by omega) hlt) ?_
          rintro r h3 ⟨rfl, B1, rfl, hs1, hw1⟩
          rw [if_neg (by rw [hμ, wrd_len]; omega), hμ] at hw1
          iterate 3 refine go_s rfl rfl rfl trivial ?_
          rw [h7]
          iterate 2 refine go_s rfl rfl rfl trivial ?_
          rw [nI_1]
          iterate 2 refine go_s rfl rfl rfl trivial ?_
          refine next hnz k12' (va_up I 7 (nI (p + k + 1))) B1 _ (hP.keep (va_up_ne _ _ (by decide)) (hs1 2 (by decide))) (by rw [hk, ew, show p + (k + 1) = p + k + 1 from rfl]; omega) (by omega) ((va_up_ne _ _ (by decide)).trans h5) ((va_up_ne _ _ (by decide)).trans h6) (va_up_self _ _ _) ((va_up_ne _ _ (by decide)).trans h8) (fun i a b c => (va_up_ne _ _ b).trans (hI i a b c)) (fun i h2 => (hs1 i h2).trans (hB i h2)) hw1 (fun x hx => (va_up_ne _ _ hx).trans (hm x hx)) ?_
          rw [va_up_self, wrd_succ, e]
  intro d
  induction d with
  | zero =>
    intro k I B μ hd hP hk k12 h5 h6 h7 h8 hI hB hw hm hμ
    refine body k I B μ hP hk k12 h5 h6 h7 h8 hI hB hw hm hμ fun q _ => absurd (lq_out (by omega)) q
  | succ d ih =>
    intro k I B μ hd hP hk k12 h5 h6 h7 h8 hI hB hw hm hμ
    exact body k I B μ hP hk k12 h5 h6 h7 h8 hI hB hw hm hμ fun q k12' I B μ => ih (k + 1) I B μ (by omega)
theorem c_readWord {I : Nat → Int32} {B : Nat → Nat → Int32} {μ : Nat → List Nat} {np a p : Nat} (hnp : np < 96) (ha : a ≤ 47) (hp : p < 100) (hP : gP P I B) (hw : wm B μ) (h5 : I 5 = nI np) (h6 : I 6 = nI a) (h7 : I 7 = nI p) (h8 : I 8 = -1) :
    Do m_Mo_readWord [.ref 48] (hM T I B S D) (fun r h' => r = none ∧ ∃ I' B' μ', h' = hM T I' B' S D ∧ rwA P p I B μ np a I' B' μ') := by
  have e4 : (4016 : Int32) + nI a = nI (4016 + a) := by rw [show (4016 : Int32) = nI 4016 from rfl, nI_add]
  have c4 : (nI (4016 + a)).toNatClampNeg = 4016 + a := nI_clamp (by omega)
  iterate 2 refine go_s rfl rfl rfl trivial ?_
  refine go_c rfl rfl rfl (c_isLetter hP (by omega) h7) ?_
  rintro r h3 ⟨rfl, rfl⟩
  have hw0 : wm (va_up B 1 (upd (B 1) (4016 + a) 0)) (va_up μ (4016 + a) []) := wm_len0 hw (by omega) rfl rfl
  by_cases hz : lq P p = 0
  · rw [b01_f (fun q => q hz)]
    refine go_c rfl rfl rfl (c_need0 h8) ?_
    rintro r h3 ⟨rfl, rfl⟩
    rw [h7]
    iterate 5 refine go_s rfl rfl rfl trivial ?_
    rw [show va_up I 8 (nI p) 6 = nI a from (va_up_ne _ _ (by decide)).trans h6]
    iterate 2 refine go_s rfl rfl rfl trivial ?_
    rw [e4]
    refine go_s rfl rfl rfl ?_ ?_
    · exact vp_in_nI (by omega) (by omega)
    simp only [c4]
    iterate 2 refine go_s rfl rfl rfl trivial ?_
    rw [show va_up I 8 (nI p) 8 = nI p from va_up_self _ _ _]
    iterate 1 refine go_s rfl rfl rfl trivial ?_
    refine go_if (fun hc => ?_) (fun hc => ?_)
    · refine Go.mono (l_rw100 (I := va_up I 8 (nI p)) (I0 := I) (B := va_up B 1 (upd (B 1) (4016 + a) 0)) (B0 := B) (μ := va_up μ (4016 + a) []) (μ0 := μ) hnp ha ((va_up_ne _ _ (by decide)).trans h5) ((va_up_ne _ _ (by decide)).trans h6) (fun i _ _ c => va_up_ne _ _ c) (fun i h2 => va_up_ne _ _ (by omega)) hw0 (fun x hx => va_up_ne _ _ hx)) fun r h' h => ?_
      obtain ⟨g1, I1, B2, μ1, g2, g3, g4, g5, rfl⟩ := h
      refine ⟨g1, I1, B2, _, g2, g3, Or.inr ⟨Or.inl (wl_no hz), p, by omega, ?_, ?_⟩⟩
      · rw [g4, va_up_ne _ _ (by decide), h7]
      · rw [g5, va_up_self, if_pos (wl_no hz)]
    · exact absurd (Int32.not_lt.mp (nI_pos (by omega))) hc
  · rw [b01_t hz]
    refine go_c rfl rfl rfl (c_need1 _ _ _ _ _) ?_
    rintro r h3 ⟨rfl, rfl⟩
    iterate 5 refine go_s rfl rfl rfl trivial ?_
    rw [h6]
    iterate 2 refine go_s rfl rfl rfl trivial ?_
    rw [e4]
    refine go_s rfl rfl rfl ?_ ?_
    · exact vp_in_nI (by omega) (by omega)
    simp only [c4]
    exact l_rw22 (I0 := I) (B0 := B) (μ0 := μ) hnp ha hp (by rw [wl_yes hz]; omega) _ 0 I (va_up B 1 (upd (B 1) (4016 + a) 0)) (va_up μ (4016 + a) []) rfl (hP.keep rfl rfl) (by simp) (by omega) h5 h6 h7 h8 (fun _ _ _ _ => rfl) (fun i h2 => va_up_ne _ _ (by omega)) hw0 (fun x hx => va_up_ne _ _ hx) (va_up_self _ _ _)
end MQ2
end
section
/-! ===== the parts of a question ===== -/
/-- row, kind (0 word, 1 beginning, 2 phrase), without, first word, how many words -/
abbrev tx_q : Type := Nat × Nat × Bool × Nat × Nat
/-- parts, words -/
abbrev tx_Q : Type := Nat × (Nat → tx_q) × Nat × (Nat → List Nat)
/-- the words of a phrase; b: how many words there were before it -/
def phF (P : tx_P) (b : Nat) : Nat → Nat → Nat → (Nat → List Nat) → Nat ⊕ (Nat × Nat × (Nat → List Nat))
  | 0, p, _, _ => .inl p
  | f + 1, p, nw, wq =>
    if sy P (sk P p) = 34 ∧ b < nw then .inr (sk P p + 1, nw, wq)
    else if wl P (sk P p) = 0 then .inl (sk P p)
    else if 12 < wl P (sk P p) then .inl (sk P p + 12)
    else phF P b f (sk P p + wl P (sk P p)) (nw + 1) (va_up wq nw (wrd P (sk P p) (wl P (sk P p))))
/-- a part behind its sign - -/
def paG (P : tx_P) (p row : Nat) (neg : Bool) (nw : Nat) (wq : Nat → List Nat) : Nat ⊕ (Nat × tx_q × Nat × (Nat → List Nat)) :=
  if sy P p = 34 then
    match phF P nw 97 (p + 1) nw wq with
    | .inl f => .inl f
    | .inr y => .inr (y.1, (row, 2, neg, nw, y.2.1 - nw), y.2.1, y.2.2)
  else if wl P p = 0 then .inl p
  else if 12 < wl P p then .inl (p + 12)
  else if sy P (p + wl P p) = 42 then .inr (p + wl P p + 1, (row, 1, neg, nw, 1), nw + 1, va_up wq nw (wrd P p (wl P p)))
  else .inr (p + wl P p, (row, 0, neg, nw, 1), nw + 1, va_up wq nw (wrd P p (wl P p)))
def paF (P : tx_P) (p row nw : Nat) (wq : Nat → List Nat) : Nat ⊕ (Nat × tx_q × Nat × (Nat → List Nat)) :=
  if sy P p = 45 then paG P (p + 1) row true nw wq else paG P p row false nw wq
def quF (P : tx_P) : Nat → Nat → Nat → Bool → tx_Q → Nat ⊕ (tx_Q × Nat)
  | 0, p, _, _, _ => .inl p
  | f + 1, p, row, wanted, Q =>
    if P.2 ≤ sk P p then (if wanted = true then .inl (sk P p) else .inr (Q, row + 1))
    else if wanted = false ∧ sy P (sk P p) = 124 then quF P f (sk P p + 1) (row + 1) true Q
    else match paF P (sk P p) row Q.2.2.1 Q.2.2.2 with
      | .inl g => .inl g
      | .inr y => quF P f y.1 row false (Q.1 + 1, va_up Q.2.1 Q.1 y.2.1, y.2.2.1, y.2.2.2)
/-- room for words -/
def bnd (P : tx_P) (nw p : Nat) : Prop := 2 * nw ≤ p ∨ (2 * nw ≤ p + 1 ∧ lq P p = 0)
theorem bnd.up {P : tx_P} {nw p p' : Nat} (h : bnd P nw p) (hp : p < p') : bnd P nw p' := Or.inl (by rcases h with h | h <;> omega)
theorem bnd.le {P : tx_P} {nw p p' : Nat} (h : bnd P nw p) (hp : p ≤ p') : bnd P nw p' := by
  rcases Nat.lt_or_ge p p' with q | q
  · exact h.up q
  · rw [show p' = p by omega]; exact h
theorem bnd.wd {P : tx_P} {nw p : Nat} (h : bnd P nw p) (hl : 0 < wl P p) : bnd P (nw + 1) (p + wl P p) ∧ 2 * nw ≤ p ∧ p < P.2 := by
  have hz : lq P p ≠ 0 := fun q => by rw [wl_no q] at hl; omega
  have h2 : 2 * nw ≤ p := by
    rcases h with h | h
    · exact h
    · exact absurd h.2 hz
  exact ⟨Or.inr ⟨by omega, wl_end P p⟩, h2, (lq_sy hz).2.2.2.2.2⟩
/-- how the reference's parts have changed -/
def frq (np : Nat) (I0 : Nat → Int32) (B0 : Nat → Nat → Int32) (μ0 : Nat → List Nat) (I : Nat → Int32) (B : Nat → Nat → Int32) (μ : Nat → List Nat) : Prop := (∀ i, i ≠ 5 → i ≠ 6 → i ≠ 7 → i ≠ 8 → I i = I0 i) ∧ (∀ i, 2 ≤ i → i ≠ 15 → B i = B0 i) ∧ (∀ i, i ≠ np → B 15 i = B0 15 i) ∧ wm B μ ∧ ∀ x, x < 4016 ∨ 4064 ≤ x → μ x = μ0 x
theorem frq.rf {np : Nat} {I : Nat → Int32} {B : Nat → Nat → Int32} {μ : Nat → List Nat} (hw : wm B μ) : frq np I B μ I B μ := ⟨fun _ _ _ _ _ => rfl, fun _ _ _ => rfl, fun _ _ => rfl, hw, fun _ _ => rfl⟩
theorem frq.w {np a : Nat} {I0 I I' : Nat → Int32} {B0 B B' : Nat → Nat → Int32} {μ0 μ μ' : Nat → List Nat} (h : frq np I0 B0 μ0 I B μ) (ha : a ≤ 47) (hr : rwq I B μ np a I' B' μ') : frq np I0 B0 μ0 I' B' μ' := by
  obtain ⟨a1, a2, a3, a4, a5⟩ := h
  obtain ⟨b1, b2, b3, b4, b5, b6⟩ := hr
  refine ⟨fun i q5 q6 q7 q8 => (b1 i q6 q7 q8).trans (a1 i q5 q6 q7 q8), fun i q2 q15 => (b2 i q2 q15).trans (a2 i q2 q15), fun i hi => ?_, b4, fun x hx => (b5 x (by omega)).trans (a5 x hx)⟩
  rw [b3, pk_un hi]
  exact a3 i hi
theorem frq.i {np : Nat} {I0 I I' : Nat → Int32} {B0 B : Nat → Nat → Int32} {μ0 μ : Nat → List Nat} (h : frq np I0 B0 μ0 I B μ) (hi : ∀ i, i ≠ 5 → i ≠ 6 → i ≠ 7 → i ≠ 8 → I' i = I i) : frq np I0 B0 μ0 I' B μ :=
  ⟨fun i q5 q6 q7 q8 => (hi i q5 q6 q7 q8).trans (h.1 i q5 q6 q7 q8), h.2⟩
theorem frq.gP {P : tx_P} {np : Nat} {I0 I : Nat → Int32} {B0 B : Nat → Nat → Int32} {μ0 μ : Nat → List Nat} (h : frq np I0 B0 μ0 I B μ) (hP : gP P I0 B0) : gP P I B := hP.keep (h.1 0 (by decide) (by decide) (by decide) (by decide)) (h.2.1 2 (by decide) (by decide))
/-- what a phrase leaves -/
def phP (P : tx_P) (b np : Nat) (I0 : Nat → Int32) (B0 : Nat → Nat → Int32) (μ0 : Nat → List Nat) (z : Nat ⊕ (Nat × Nat × (Nat → List Nat))) (I : Nat → Int32) (B : Nat → Nat → Int32) (μ : Nat → List Nat) : Prop :=
  frq np I0 B0 μ0 I B μ ∧ match z with
  | .inl f => I 8 = nI f ∧ f < 300 ∧ ∃ q, q < 300 ∧ I 7 = nI q
  | .inr y => I 5 = nI (np + 1) ∧ I 6 = nI (min y.2.1 47) ∧ I 7 = nI y.1 ∧ I 8 = -1 ∧ B 15 np = nI (y.2.1 - b) ∧ (∀ j, j < y.2.1 → μ (4016 + j) = y.2.2 j) ∧ bnd P y.2.1 y.1 ∧ y.1 ≤ P.2 ∧ b ≤ y.2.1 ∧ y.2.1 ≤ 48
section MQ3
variable {T : Nat → am_C} {D : List am_C} {S : Nat → Int64} {P : tx_P}
theorem l_ph161 {I : Nat → Int32} {B : Nat → Nat → Int32} {np q : Nat} {row more : Int32} (h5 : I 5 = nI np) (h7 : I 7 = nI q) : Go m_Mo_readPart 161 [some (.ref 48), some (.int row), some (.int more)] [] (hM T I B S D) (fun r h' => r = none ∧ h' = hM T (va_up (va_up I 7 (nI (q + 1))) 5 (nI (np + 1))) B S D) := by
  iterate 6 refine go_s rfl rfl rfl trivial ?_
  rw [h7, nI_1]
  iterate 4 refine go_s rfl rfl rfl trivial ?_
  change Go m_Mo_readPart 222 [some (.ref 48), some (.int row), some (.int more)] [.int (I 5), .ref 48] (hM T (va_up I 7 (nI (q + 1))) B S D) _
  rw [h5]
  iterate 2 refine go_s rfl rfl rfl trivial ?_
  rw [nI_1]
  iterate 1 refine go_s rfl rfl rfl trivial ?_
  exact go_r rfl rfl rfl trivial ⟨rfl, rfl⟩
theorem l_ph114 {b np : Nat} {row : Int32} {I0 : Nat → Int32} {B0 : Nat → Nat → Int32} {μ0 : Nat → List Nat} (hnp : np < 96) (hP0 : gP P I0 B0) : ∀ (f p nw : Nat) (wq : Nat → List Nat) (I : Nat → Int32) (B : Nat → Nat → Int32) (μ : Nat → List Nat), P.2 - p < f → p ≤ P.2 → sk P p = p → ¬ (sy P p = 34 ∧ b < nw) → b ≤ nw → nw ≤ 48 → bnd P nw p → I 5 = nI np → I 6 = nI (min nw 47) → I 7 = nI p → I 8 = -1 → B 15 np = nI (nw - b) → (∀ j, j < nw → μ (4016 + j) = wq j) → frq np I0 B0 μ0 I B μ →
    Go m_Mo_readPart 114 [some (.ref 48), some (.int row), some (.int 1)] [] (hM T I B S D) (fun r h' => r = none ∧ ∃ I' B' μ', h' = hM T I' B' S D ∧ phP P b np I0 B0 μ0 (phF P b f p nw wq) I' B' μ') := by
  intro f
  induction f with
  | zero => intro p nw wq I B μ hf; omega
  | succ f ih =>
    intro p nw wq I B μ hf hp hsk hno hb hn48 hbnd h5 h6 h7 h8 h15 hwq hfr
    have hn96 : P.2 ≤ 96 := hP0.2.1
    have hP := hfr.gP hP0
    have e0 : phF P b (f + 1) p nw wq = if wl P p = 0 then .inl p else if 12 < wl P p then .inl (p + 12) else phF P b f (p + wl P p) (nw + 1) (va_up wq nw (wrd P p (wl P p))) := by
      rw [phF, hsk, if_neg hno]
    rw [e0]
    iterate 2 refine go_s rfl rfl rfl trivial ?_
    refine go_if (fun hc => ?_) (fun hc => ?_)
    · exact absurd hc (by decide)
    · iterate 2 refine go_s rfl rfl rfl trivial ?_
      rw [h8]
      iterate 1 refine go_s rfl rfl rfl trivial ?_
      refine go_if (fun hc1 => absurd hc1 (by decide)) (fun _ => ?_)
      iterate 1 refine go_s rfl rfl rfl trivial ?_
      refine go_c rfl rfl rfl (c_readWord hnp (a := min nw 47) (by omega) (p := p) (by omega) hP hfr.2.2.2.1 h5 h6 h7 h8) ?_
      rintro r h3 ⟨rfl, I1, B1, μ1, rfl, hr1, hr2⟩
      have hfr1 := hfr.w (by omega) hr1
      have h51 : I1 5 = nI np := (hr1.1 5 (by decide) (by decide) (by decide)).trans h5
      iterate 2 refine go_s rfl rfl rfl trivial ?_
      rcases hr2 with ⟨w0, w12, q7, q8, qw⟩ | ⟨wbad, q, hq, q7, q8⟩
      · obtain ⟨bn1, bn2, bn3⟩ := hbnd.wd w0
        have hpl : p + wl P p ≤ P.2 := wl_le hp
        have ea : min nw 47 = nw := by omega
        rw [if_neg (by omega), if_neg (by omega)]
        rw [ea] at hr1 qw
        rw [q8]
        iterate 1 refine go_s rfl rfl rfl trivial ?_
        refine go_if (fun _ => ?_) (fun hc1 => absurd (by decide) hc1)
        iterate 1 refine go_s rfl rfl rfl trivial ?_
        refine go_c rfl rfl rfl (c_skip (hfr1.gP hP0) (p := p + wl P p) (by omega) q7) ?_
        rintro r h3 ⟨rfl, rfl⟩
        have hfr2 : frq np I0 B0 μ0 (va_up I1 7 (nI (sk P (p + wl P p)))) B1 μ1 := hfr1.i (fun i _ _ a _ => va_up_ne _ _ a)
        have hsk2 : sk P (p + wl P p) ≤ P.2 := sk_le hpl
        have hskg := sk_ge P (p + wl P p)
        iterate 1 refine go_s rfl rfl rfl trivial ?_
        refine go_c rfl rfl rfl (c_here (hfr2.gP hP0) (p := sk P (p + wl P p)) (by omega) (va_up_self _ _ _)) ?_
        rintro r h3 ⟨rfl, rfl⟩
        have hwq1 : ∀ j, j < nw + 1 → μ1 (4016 + j) = va_up wq nw (wrd P p (wl P p)) j := by
          intro j hj
          by_cases e : j = nw
          · subst e; rw [va_up_self]; exact qw
          · rw [va_up_ne _ _ e, hr1.2.2.2.2.1 _ (by omega)]
            exact hwq j (by omega)
        have h151 : B1 15 np = nI (nw + 1 - b) := by
          rw [hr1.2.2.1, pk_us, h15, nI_1]
          congr 1
          omega
        obtain ⟨f', rfl⟩ : ∃ f', f = f' + 1 := ⟨f - 1, by omega⟩
        iterate 2 refine go_s rfl rfl rfl trivial ?_
        refine go_if (fun hc1 => ?_) (fun hc1 => ?_)
        · have h34 : sy P (sk P (p + wl P p)) = 34 := (hereI_eq (hP.lt) (by decide)).mp hc1
          iterate 5 refine go_s rfl rfl rfl trivial ?_
          refine go_if (fun _ => ?_) (fun hc2 => absurd rfl hc2)
          refine Go.mono (l_ph161 (I := va_up I1 7 (nI (sk P (p + wl P p)))) (np := np) (q := sk P (p + wl P p)) ((va_up_ne _ _ (by decide)).trans h51) (va_up_self _ _ _)) fun r h' h => ?_
          obtain ⟨rfl, rfl⟩ := h
          refine ⟨rfl, _, B1, μ1, rfl, hfr2.i (fun i a5 _ a7 _ => (va_up_ne _ _ a5).trans (va_up_ne _ _ a7)), ?_⟩
          rw [phF, if_pos ⟨h34, by omega⟩]
          have hlt : sk P (p + wl P p) < P.2 := Nat.lt_of_not_le fun q => by rw [sy_out q] at h34; omega
          refine ⟨va_up_self _ _ _, ?_, ?_, ?_, h151, hwq1, bn1.up (by show _ < sk P (p + wl P p) + 1; omega), hlt, by show b ≤ nw + 1; omega, by show nw + 1 ≤ 48; omega⟩
          · rw [va_up_ne _ _ (by decide), va_up_ne _ _ (by decide), va_up_ne _ _ (by decide)]
            exact hr1.2.2.2.2.2
          · rw [va_up_ne _ _ (by decide), va_up_self]
          · rw [va_up_ne _ _ (by decide), va_up_ne _ _ (by decide), va_up_ne _ _ (by decide), q8]
        · have h34 : ¬ sy P (sk P (p + wl P p)) = 34 := fun q => hc1 ((hereI_eq (hP.lt) (by decide)).mpr q)
          iterate 4 refine go_s rfl rfl rfl trivial ?_
          have := ih (sk P (p + wl P p)) (nw + 1) (va_up wq nw (wrd P p (wl P p))) (va_up I1 7 (nI (sk P (p + wl P p)))) B1 μ1 (by omega) hsk2 (sk_sk _ _) (fun q => h34 q.1) (by omega) (by omega) (bn1.le hskg) ((va_up_ne _ _ (by decide)).trans h51) ((va_up_ne _ _ (by decide)).trans hr1.2.2.2.2.2) (va_up_self _ _ _) ((va_up_ne _ _ (by decide)).trans q8) h151 hwq1 hfr2
          have e2 : phF P b (f' + 1) (sk P (p + wl P p)) (nw + 1) (va_up wq nw (wrd P p (wl P p))) = phF P b (f' + 1) (p + wl P p) (nw + 1) (va_up wq nw (wrd P p (wl P p))) := by
            rw [phF, phF, sk_sk]
          rw [e2] at this
          exact this
      · have ez : (if wl P p = 0 then (.inl p : Nat ⊕ (Nat × Nat × (Nat → List Nat))) else if 12 < wl P p then .inl (p + 12) else phF P b f (p + wl P p) (nw + 1) (va_up wq nw (wrd P p (wl P p)))) = .inl (if wl P p = 0 then p else p + 12) := by
          by_cases e : wl P p = 0
          · rw [if_pos e, if_pos e]
          · rw [if_neg e, if_neg e, if_pos (by omega)]
        rw [ez]
        have hf2 : (if wl P p = 0 then p else p + 12) < 300 := by split <;> omega
        rw [q8]
        iterate 1 refine go_s rfl rfl rfl trivial ?_
        refine go_if (fun hc1 => absurd hc1 (nI_pos (by omega))) (fun _ => ?_)
        iterate 3 refine go_s rfl rfl rfl trivial ?_
        refine go_if (fun hc2 => absurd hc2 (by decide)) (fun _ => ?_)
        iterate 2 refine go_s rfl rfl rfl trivial ?_
        rw [q8]
        iterate 1 refine go_s rfl rfl rfl trivial ?_
        refine go_if (fun _ => ?_) (fun hc1 => absurd (Int32.not_lt.mp (nI_pos (by omega))) hc1)
        refine Go.mono (l_ph161 h51 q7) fun r h' h => ?_
        obtain ⟨rfl, rfl⟩ := h
        refine ⟨rfl, _, B1, μ1, rfl, hfr1.i (fun i a5 _ a7 _ => (va_up_ne _ _ a5).trans (va_up_ne _ _ a7)), ?_, hf2, q + 1, by omega, ?_⟩
        · rw [va_up_ne _ _ (by decide), va_up_ne _ _ (by decide), q8]
        · rw [va_up_ne _ _ (by decide), va_up_self]
end MQ3
end
section
/-! ===== the reference: a part of a question ===== -/
def srt (q : tx_q) : Nat := (if q.2.2.1 = true then 1 else 0) + (if q.2.1 = 2 then 4 else if q.2.1 = 1 then 2 else 0)
theorem phF_inr (P : tx_P) (b : Nat) : ∀ (f p nw : Nat) (wq : Nat → List Nat) (y : Nat × Nat × (Nat → List Nat)), phF P b f p nw wq = .inr y → b < y.2.1
  | 0, p, nw, wq, y, h => by simp [phF] at h
  | f + 1, p, nw, wq, y, h => by
    rw [phF] at h
    split at h
    · rename_i q
      injection h with h
      rw [← h]
      exact q.2
    · split at h
      · simp at h
      · split at h
        · simp at h
        · exact phF_inr P b f _ _ _ y h
theorem phF_sk (P : tx_P) (b f p nw : Nat) (wq : Nat → List Nat) : phF P b (f + 1) (sk P p) nw wq = phF P b (f + 1) p nw wq := by
  rw [phF, phF, sk_sk]
/-- how reading a part changes the reference -/
def frp (np : Nat) (I0 : Nat → Int32) (B0 : Nat → Nat → Int32) (μ0 : Nat → List Nat) (I : Nat → Int32) (B : Nat → Nat → Int32) (μ : Nat → List Nat) : Prop := (∀ i, i ≠ 5 → i ≠ 6 → i ≠ 7 → i ≠ 8 → I i = I0 i) ∧ (∀ i, 2 ≤ i → i ≠ 12 → i ≠ 13 → i ≠ 14 → i ≠ 15 → B i = B0 i) ∧ (∀ i, 12 ≤ i → i ≤ 15 → ∀ j, j ≠ np → B i j = B0 i j) ∧ wm B μ ∧ ∀ x, x < 4016 ∨ 4064 ≤ x → μ x = μ0 x
theorem frp.gP {P : tx_P} {np : Nat} {I0 I : Nat → Int32} {B0 B : Nat → Nat → Int32} {μ0 μ : Nat → List Nat} (h : frp np I0 B0 μ0 I B μ) (hP : gP P I0 B0) : gP P I B := hP.keep (h.1 0 (by decide) (by decide) (by decide) (by decide)) (h.2.1 2 (by decide) (by decide) (by decide) (by decide) (by decide))
theorem frp.q {np : Nat} {I0 I I' : Nat → Int32} {B0 B B' : Nat → Nat → Int32} {μ0 μ μ' : Nat → List Nat} (h : frp np I0 B0 μ0 I B μ) (h2 : frq np I B μ I' B' μ') : frp np I0 B0 μ0 I' B' μ' := by
  obtain ⟨a1, a2, a3, a4, a5⟩ := h
  obtain ⟨b1, b2, b3, b4, b5⟩ := h2
  refine ⟨fun i q5 q6 q7 q8 => (b1 i q5 q6 q7 q8).trans (a1 i q5 q6 q7 q8), fun i q2 c12 c13 c14 c15 => (b2 i q2 c15).trans (a2 i q2 c12 c13 c14 c15), fun i c12 c15 j hj => ?_, b4, fun x hx => (b5 x hx).trans (a5 x hx)⟩
  by_cases e : i = 15
  · subst e
    exact (b3 j hj).trans (a3 15 c12 c15 j hj)
  · rw [b2 i (by omega) e]
    exact a3 i c12 c15 j hj
def paP (P : tx_P) (np : Nat) (I0 : Nat → Int32) (B0 : Nat → Nat → Int32) (μ0 : Nat → List Nat) (z : Nat ⊕ (Nat × tx_q × Nat × (Nat → List Nat))) (I : Nat → Int32) (B : Nat → Nat → Int32) (μ : Nat → List Nat) : Prop :=
  frp np I0 B0 μ0 I B μ ∧ match z with
  | .inl f => I 8 = nI f ∧ f < 300 ∧ ∃ q, q < 300 ∧ I 7 = nI q
  | .inr y => I 5 = nI (np + 1) ∧ I 6 = nI (min y.2.2.1 47) ∧ I 7 = nI y.1 ∧ I 8 = -1 ∧ (B 12 np = nI y.2.1.1 ∧ B 13 np = nI (srt y.2.1) ∧ B 14 np = nI (4016 + y.2.1.2.2.2.1) ∧ B 15 np = nI y.2.1.2.2.2.2) ∧ (∀ j, j < y.2.2.1 → μ (4016 + j) = y.2.2.2 j) ∧ bnd P y.2.2.1 y.1 ∧ y.1 ≤ P.2 ∧ y.2.2.1 ≤ 48
section MQ4
variable {T : Nat → am_C} {D : List am_C} {S : Nat → Int64} {P : tx_P}
theorem l_pa217 {I : Nat → Int32} {B : Nat → Nat → Int32} {np : Nat} {row : Int32} {more : Option Value} (h5 : I 5 = nI np) : Go m_Mo_readPart 217 [some (.ref 48), some (.int row), more] [] (hM T I B S D) (fun r h' => r = none ∧ h' = hM T (va_up I 5 (nI (np + 1))) B S D) := by
  iterate 3 refine go_s rfl rfl rfl trivial ?_
  rw [h5]
  iterate 2 refine go_s rfl rfl rfl trivial ?_
  rw [nI_1]
  iterate 1 refine go_s rfl rfl rfl trivial ?_
  exact go_r rfl rfl rfl trivial ⟨rfl, rfl⟩
theorem l_pa76 {np row nw p : Nat} {neg : Bool} {wq : Nat → List Nat} {I I0 : Nat → Int32} {B B0 : Nat → Nat → Int32} {μ μ0 : Nat → List Nat} (hnp : np < 96) (hP0 : gP P I0 B0) (hfr : frp np I0 B0 μ0 I B μ) (hp : p ≤ P.2) (hn48 : nw ≤ 48) (hbnd : bnd P nw p) (h5 : I 5 = nI np) (h6 : I 6 = nI (min nw 47)) (h7 : I 7 = nI p) (h8 : I 8 = -1) (b12 : B 12 np = nI row) (b13 : B 13 np = nI (if neg = true then 1 else 0)) (b14 : B 14 np = nI (4016 + min nw 47)) (b15 : B 15 np = nI 0) (hwq : ∀ j, j < nw → μ (4016 + j) = wq j) :
    Go m_Mo_readPart 76 [some (.ref 48), some (.int (nI row)), none] [] (hM T I B S D) (fun r h' => r = none ∧ ∃ I' B' μ', h' = hM T I' B' S D ∧ paP P np I0 B0 μ0 (paG P p row neg nw wq) I' B' μ') := by
  have hn96 : P.2 ≤ 96 := hP0.2.1
  have hP := hfr.gP hP0
  have cn : (nI np).toNatClampNeg = np := nI_clamp (by omega)
  iterate 1 refine go_s rfl rfl rfl trivial ?_
  refine go_c rfl rfl rfl (c_here hP (p := p) (by omega) h7) ?_
  rintro r h3 ⟨rfl, rfl⟩
  iterate 2 refine go_s rfl rfl rfl trivial ?_
  refine go_if (fun hc => ?_) (fun hc => ?_)
  · have h34 : ¬ sy P p = 34 := fun q => hc ((hereI_eq hP.lt (by decide)).mpr q)
    rw [paG, if_neg h34]
    iterate 1 refine go_s rfl rfl rfl trivial ?_
    refine go_c rfl rfl rfl (c_readWord hnp (a := min nw 47) (by omega) (p := p) (by omega) hP hfr.2.2.2.1 h5 h6 h7 h8) ?_
    rintro r h3 ⟨rfl, I1, B1, μ1, rfl, hr1, hr2⟩
    have hfr1 : frp np I0 B0 μ0 I1 B1 μ1 := hfr.q ((frq.rf hfr.2.2.2.1).w (by omega) hr1)
    have h51 : I1 5 = nI np := (hr1.1 5 (by decide) (by decide) (by decide)).trans h5
    iterate 1 refine go_s rfl rfl rfl trivial ?_
    rcases hr2 with ⟨w0, w12, q7, q8, qw⟩ | ⟨wbad, q, hq, q7, q8⟩
    · obtain ⟨bn1, bn2, bn3⟩ := hbnd.wd w0
      have hpl : p + wl P p ≤ P.2 := wl_le hp
      have ea : min nw 47 = nw := by omega
      rw [if_neg (by omega), if_neg (by omega)]
      rw [ea] at hr1 qw b14
      have hwq1 : ∀ j, j < nw + 1 → μ1 (4016 + j) = va_up wq nw (wrd P p (wl P p)) j := by
        intro j hj
        by_cases e : j = nw
        · subst e; rw [va_up_self]; exact qw
        · rw [va_up_ne _ _ e, hr1.2.2.2.2.1 _ (by omega)]
          exact hwq j (by omega)
      have c12 : B1 12 np = nI row := by rw [hr1.2.1 12 (by decide) (by decide)]; exact b12
      have c13 : B1 13 np = nI (if neg = true then 1 else 0) := by rw [hr1.2.1 13 (by decide) (by decide)]; exact b13
      have c14 : B1 14 np = nI (4016 + nw) := by rw [hr1.2.1 14 (by decide) (by decide)]; exact b14
      have c15 : B1 15 np = nI 1 := by rw [hr1.2.2.1, pk_us, b15, nI_1]
      refine go_c rfl rfl rfl (c_here (hfr1.gP hP0) (p := p + wl P p) (by omega) q7) ?_
      rintro r h3 ⟨rfl, rfl⟩
      iterate 2 refine go_s rfl rfl rfl trivial ?_
      refine go_if (fun hc1 => ?_) (fun hc1 => ?_)
      · have h42 : ¬ sy P (p + wl P p) = 42 := fun q => hc1 ((hereI_eq hP.lt (by decide)).mpr q)
        rw [if_neg h42]
        refine Go.mono (l_pa217 h51) fun r h' h => ?_
        obtain ⟨rfl, rfl⟩ := h
        refine ⟨rfl, va_up I1 5 (nI (np + 1)), B1, μ1, rfl, hfr1.q ((frq.rf hr1.2.2.2.1).i (fun i a5 _ _ _ => va_up_ne _ _ a5)), va_up_self _ _ _, ?_, ?_, ?_, ⟨c12, ?_, c14, c15⟩, hwq1, bn1, hpl, by show nw + 1 ≤ 48; omega⟩
        · rw [va_up_ne _ _ (by decide)]; exact hr1.2.2.2.2.2
        · rw [va_up_ne _ _ (by decide)]; exact q7
        · rw [va_up_ne _ _ (by decide)]; exact q8
        · rw [c13]; rfl
      · have h42 : sy P (p + wl P p) = 42 := (hereI_eq hP.lt (by decide)).mp (Classical.not_not.mp hc1)
        rw [if_pos h42]
        have hlt : p + wl P p < P.2 := Nat.lt_of_not_le fun q => by rw [sy_out q] at h42; omega
        iterate 2 refine go_s rfl rfl rfl trivial ?_
        rw [q8]
        iterate 1 refine go_s rfl rfl rfl trivial ?_
        refine go_if (fun hc2 => absurd hc2 (by decide)) (fun _ => ?_)
        iterate 3 refine go_s rfl rfl rfl trivial ?_
        rw [q7]
        iterate 2 refine go_s rfl rfl rfl trivial ?_
        rw [nI_1]
        iterate 6 refine go_s rfl rfl rfl trivial ?_
        change Go m_Mo_readPart 213 [some (.ref 48), some (.int (nI row)), none] [.int (I1 5), .ref 62, .int (I1 5), .ref 62] (hM T (va_up I1 7 (nI (p + wl P p + 1))) B1 S D) _
        rw [h51]
        refine go_s rfl rfl rfl ?_ ?_
        · exact vp_in_nI (by omega) (by omega)
        simp only [cn]
        iterate 2 refine go_s rfl rfl rfl trivial ?_
        refine go_s rfl rfl rfl ?_ ?_
        · exact vp_in_nI (by omega) (by omega)
        simp only [cn]
        refine Go.mono (l_pa217 (I := va_up I1 7 (nI (p + wl P p + 1))) (B := va_up B1 13 (upd (B1 13) np (B1 13 np + 2))) ((va_up_ne _ _ (by decide)).trans h51)) fun r h' h => ?_
        obtain ⟨rfl, rfl⟩ := h
        have hfr2 : frp np I0 B0 μ0 (va_up (va_up I1 7 (nI (p + wl P p + 1))) 5 (nI (np + 1))) (va_up B1 13 (upd (B1 13) np (B1 13 np + 2))) μ1 := by
          obtain ⟨a1, a2, a3, a4, a5⟩ := hfr1
          refine ⟨fun i q5 q6 q7 q8 => (va_up_ne _ _ q5).trans ((va_up_ne _ _ q7).trans (a1 i q5 q6 q7 q8)), fun i q2 c12 c13 c14 c15 => (va_up_ne _ _ c13).trans (a2 i q2 c12 c13 c14 c15), fun i c12 c15 j hj => ?_, a4.keep2 rfl rfl, a5⟩
          by_cases e : i = 13
          · subst e
            rw [va_up_self, pk_un hj]
            exact a3 13 c12 c15 j hj
          · rw [va_up_ne _ _ e]
            exact a3 i c12 c15 j hj
        refine ⟨rfl, _, _, μ1, rfl, hfr2, va_up_self _ _ _, ?_, ?_, ?_, ⟨c12, ?_, c14, c15⟩, hwq1, bn1.up (Nat.lt_succ_self _), hlt, by show nw + 1 ≤ 48; omega⟩
        · rw [va_up_ne _ _ (by decide), va_up_ne _ _ (by decide)]; exact hr1.2.2.2.2.2
        · rw [va_up_ne _ _ (by decide), va_up_self]
        · rw [va_up_ne _ _ (by decide), va_up_ne _ _ (by decide)]; exact q8
        · rw [va_up_self, pk_us, c13]
          exact nI_add _ 2
    · have ez : (if wl P p = 0 then (.inl p : Nat ⊕ (Nat × tx_q × Nat × (Nat → List Nat))) else if 12 < wl P p then .inl (p + 12) else if sy P (p + wl P p) = 42 then .inr (p + wl P p + 1, (row, 1, neg, nw, 1), nw + 1, va_up wq nw (wrd P p (wl P p))) else .inr (p + wl P p, (row, 0, neg, nw, 1), nw + 1, va_up wq nw (wrd P p (wl P p)))) = .inl (if wl P p = 0 then p else p + 12) := by
        by_cases e : wl P p = 0
        · rw [if_pos e, if_pos e]
        · rw [if_neg e, if_neg e, if_pos (by omega)]
      rw [ez]
      have hf2 : (if wl P p = 0 then p else p + 12) < 300 := by split <;> omega
      have fin : Go m_Mo_readPart 217 [some (.ref 48), some (.int (nI row)), none] [] (hM T I1 B1 S D) (fun r h' => r = none ∧ ∃ I' B' μ', h' = hM T I' B' S D ∧ paP P np I0 B0 μ0 (.inl (if wl P p = 0 then p else p + 12)) I' B' μ') := by
        refine Go.mono (l_pa217 h51) fun r h' h => ?_
        obtain ⟨rfl, rfl⟩ := h
        exact ⟨rfl, va_up I1 5 (nI (np + 1)), B1, μ1, rfl, hfr1.q ((frq.rf hr1.2.2.2.1).i (fun i a5 _ _ _ => va_up_ne _ _ a5)), (va_up_ne _ _ (by decide)).trans q8, hf2, q, by omega, (va_up_ne _ _ (by decide)).trans q7⟩
      refine go_c rfl rfl rfl (c_here (hfr1.gP hP0) (p := q) (by omega) q7) ?_
      rintro r h3 ⟨rfl, rfl⟩
      iterate 2 refine go_s rfl rfl rfl trivial ?_
      refine go_if (fun hc1 => fin) (fun hc1 => ?_)
      iterate 2 refine go_s rfl rfl rfl trivial ?_
      rw [q8]
      iterate 1 refine go_s rfl rfl rfl trivial ?_
      exact go_if (fun _ => fin) (fun hc2 => absurd (Int32.not_lt.mp (nI_pos (by omega))) hc2)
  · have h34 : sy P p = 34 := (hereI_eq hP.lt (by decide)).mp (Classical.not_not.mp hc)
    have hlt : p < P.2 := Nat.lt_of_not_le fun q => by rw [sy_out q] at h34; omega
    rw [paG, if_pos h34]
    iterate 3 refine go_s rfl rfl rfl trivial ?_
    rw [h7]
    iterate 2 refine go_s rfl rfl rfl trivial ?_
    rw [nI_1]
    iterate 6 refine go_s rfl rfl rfl trivial ?_
    change Go m_Mo_readPart 104 [some (.ref 48), some (.int (nI row)), none] [.int (I 5), .ref 62, .int (I 5), .ref 62] (hM T (va_up I 7 (nI (p + 1))) B S D) _
    rw [h5]
    refine go_s rfl rfl rfl ?_ ?_
    · exact vp_in_nI (by omega) (by omega)
    simp only [cn]
    iterate 2 refine go_s rfl rfl rfl trivial ?_
    refine go_s rfl rfl rfl ?_ ?_
    · exact vp_in_nI (by omega) (by omega)
    simp only [cn]
    change Go m_Mo_readPart 108 [some (.ref 48), some (.int (nI row)), none] [] (hM T (va_up I 7 (nI (p + 1))) (va_up B 13 (upd (B 13) np (B 13 np + 4))) S D) _
    have hPa : gP P (va_up I 7 (nI (p + 1))) (va_up B 13 (upd (B 13) np (B 13 np + 4))) := hP.keep rfl rfl
    iterate 1 refine go_s rfl rfl rfl trivial ?_
    refine go_c rfl rfl rfl (c_skip hPa (p := p + 1) (by omega) (va_up_self _ _ _)) ?_
    rintro r h3 ⟨rfl, rfl⟩
    rw [bx_uu]
    iterate 2 refine go_s rfl rfl rfl trivial ?_
    have hsk1 := sk_le (P := P) (p := p + 1) (by omega)
    have hskg := sk_ge P (p + 1)
    have hfr2 : frp np I0 B0 μ0 (va_up I 7 (nI (sk P (p + 1)))) (va_up B 13 (upd (B 13) np (B 13 np + 4))) μ := by
      obtain ⟨a1, a2, a3, a4, a5⟩ := hfr
      refine ⟨fun i q5 q6 q7 q8 => (va_up_ne _ _ q7).trans (a1 i q5 q6 q7 q8), fun i q2 c12 c13 c14 c15 => (va_up_ne _ _ c13).trans (a2 i q2 c12 c13 c14 c15), fun i c12 c15 j hj => ?_, a4.keep2 rfl rfl, a5⟩
      by_cases e : i = 13
      · subst e
        rw [va_up_self, pk_un hj]
        exact a3 13 c12 c15 j hj
      · rw [va_up_ne _ _ e]
        exact a3 i c12 c15 j hj
    have e97 : phF P nw 97 (sk P (p + 1)) nw wq = phF P nw 97 (p + 1) nw wq := phF_sk P nw 96 (p + 1) nw wq
    refine Go.mono (l_ph114 (b := nw) (np := np) (row := nI row) (I0 := va_up I 7 (nI (sk P (p + 1)))) (B0 := va_up B 13 (upd (B 13) np (B 13 np + 4))) (μ0 := μ) hnp (hfr2.gP hP0) 97 (sk P (p + 1)) nw wq (va_up I 7 (nI (sk P (p + 1)))) (va_up B 13 (upd (B 13) np (B 13 np + 4))) μ (by omega) hsk1 (sk_sk _ _) (fun q => Nat.lt_irrefl _ q.2) (Nat.le_refl _) hn48 (hbnd.up (by omega)) ((va_up_ne _ _ (by decide)).trans h5) ((va_up_ne _ _ (by decide)).trans h6) (va_up_self _ _ _) ((va_up_ne _ _ (by decide)).trans h8) (by rw [Nat.sub_self]; exact b15) hwq (frq.rf hfr2.2.2.2.1)) fun r h' h => ?_
    obtain ⟨rfl, I3, B3, μ3, rfl, g1, g2⟩ := h
    rw [e97] at g2
    refine ⟨rfl, I3, B3, μ3, rfl, hfr2.q g1, ?_⟩
    cases hz : phF P nw 97 (p + 1) nw wq with
    | inl f => rw [hz] at g2; exact g2
    | inr y =>
      have hby := phF_inr P nw 97 (p + 1) nw wq y hz
      rw [hz] at g2
      obtain ⟨k1, k2, k3, k4, k5, k6, k7, k8, k9, k10⟩ := g2
      have ea : min nw 47 = nw := by omega
      rw [ea] at b14
      have m12 : B3 12 np = nI row := by rw [g1.2.1 12 (by decide) (by decide)]; exact b12
      have m13 : B3 13 np = nI ((if neg = true then 1 else 0) + 4) := by
        rw [g1.2.1 13 (by decide) (by decide), va_up_self, pk_us, b13]
        exact nI_add _ 4
      have m14 : B3 14 np = nI (4016 + nw) := by rw [g1.2.1 14 (by decide) (by decide)]; exact b14
      exact ⟨k1, k2, k3, k4, ⟨m12, m13, m14, k5⟩, k6, k7, k8, k10⟩
theorem c_readPart {np row nw p : Nat} {wq : Nat → List Nat} {I : Nat → Int32} {B : Nat → Nat → Int32} {μ : Nat → List Nat} (hnp : np < 96) (hP : gP P I B) (hw : wm B μ) (hp : p ≤ P.2) (hn48 : nw ≤ 48) (hbnd : bnd P nw p) (h5 : I 5 = nI np) (h6 : I 6 = nI (min nw 47)) (h7 : I 7 = nI p) (h8 : I 8 = -1) (hwq : ∀ j, j < nw → μ (4016 + j) = wq j) :
    Do m_Mo_readPart [.ref 48, .int (nI row)] (hM T I B S D) (fun r h' => r = none ∧ ∃ I' B' μ', h' = hM T I' B' S D ∧ paP P np I B μ (paF P p row nw wq) I' B' μ') := by
  have hn96 : P.2 ≤ 96 := hP.2.1
  have cn : (nI np).toNatClampNeg = np := nI_clamp (by omega)
  iterate 4 refine go_s rfl rfl rfl trivial ?_
  rw [h5]
  iterate 1 refine go_s rfl rfl rfl trivial ?_
  refine go_s rfl rfl rfl ?_ ?_
  · exact vp_in_nI (by omega) (by omega)
  simp only [cn]
  iterate 4 refine go_s rfl rfl rfl trivial ?_
  rw [h5]
  iterate 1 refine go_s rfl rfl rfl trivial ?_
  refine go_s rfl rfl rfl ?_ ?_
  · exact vp_in_nI (by omega) (by omega)
  simp only [cn]
  iterate 4 refine go_s rfl rfl rfl trivial ?_
  rw [h5]
  iterate 3 refine go_s rfl rfl rfl trivial ?_
  rw [h6]
  iterate 1 refine go_s rfl rfl rfl trivial ?_
  rw [show (4016 : Int32) + nI (min nw 47) = nI (4016 + min nw 47) by rw [show (4016 : Int32) = nI 4016 from rfl, nI_add]]
  refine go_s rfl rfl rfl ?_ ?_
  · exact vp_in_nI (by omega) (by omega)
  simp only [cn]
  iterate 4 refine go_s rfl rfl rfl trivial ?_
  rw [h5]
  iterate 1 refine go_s rfl rfl rfl trivial ?_
  refine go_s rfl rfl rfl ?_ ?_
  · exact vp_in_nI (by omega) (by omega)
  simp only [cn]
  change Go m_Mo_readPart 47 [some (.ref 48), some (.int (nI row)), none] [] (hM T I (va_up (va_up (va_up (va_up B 12 (upd (B 12) np (nI row))) 13 (upd (B 13) np 0)) 14 (upd (B 14) np (nI (4016 + min nw 47)))) 15 (upd (B 15) np 0)) S D) _
  have key : ∃ B1, B1 = (va_up (va_up (va_up (va_up B 12 (upd (B 12) np (nI row))) 13 (upd (B 13) np 0)) 14 (upd (B 14) np (nI (4016 + min nw 47)))) 15 (upd (B 15) np 0)) := ⟨_, rfl⟩
  obtain ⟨B1, eB1⟩ := key
  have d12 : B1 12 = upd (B 12) np (nI row) := by
    rw [eB1, va_up_ne _ _ (by decide), va_up_ne _ _ (by decide), va_up_ne _ _ (by decide), va_up_self]
  have d13 : B1 13 = upd (B 13) np 0 := by
    rw [eB1, va_up_ne _ _ (by decide), va_up_ne _ _ (by decide), va_up_self]
  have d14 : B1 14 = upd (B 14) np (nI (4016 + min nw 47)) := by
    rw [eB1, va_up_ne _ _ (by decide), va_up_self]
  have d15 : B1 15 = upd (B 15) np 0 := by rw [eB1, va_up_self]
  have kB : ∀ i, i ≠ 12 → i ≠ 13 → i ≠ 14 → i ≠ 15 → B1 i = B i := fun i a b c d => by
    rw [eB1, va_up_ne _ _ d, va_up_ne _ _ c, va_up_ne _ _ b, va_up_ne _ _ a]
  rw [← eB1]
  have hfr : frp np I B μ I B1 μ := by
    refine ⟨fun _ _ _ _ _ => rfl, fun i _ a b c d => kB i a b c d, fun i a b j hj => ?_, hw.keep2 (kB 0 (by decide) (by decide) (by decide) (by decide)) (kB 1 (by decide) (by decide) (by decide) (by decide)), fun _ _ => rfl⟩
    rcases (by omega : i = 12 ∨ i = 13 ∨ i = 14 ∨ i = 15) with rfl | rfl | rfl | rfl
    · rw [d12, pk_un hj]
    · rw [d13, pk_un hj]
    · rw [d14, pk_un hj]
    · rw [d15, pk_un hj]
  have hP1 := hfr.gP hP
  iterate 1 refine go_s rfl rfl rfl trivial ?_
  refine go_c rfl rfl rfl (c_here hP1 (p := p) (by omega) h7) ?_
  rintro r h3 ⟨rfl, rfl⟩
  iterate 2 refine go_s rfl rfl rfl trivial ?_
  refine go_if (fun hc => ?_) (fun hc => ?_)
  · have h45 : ¬ sy P p = 45 := fun q => hc ((hereI_eq hP.lt (by decide)).mpr q)
    rw [paF, if_neg h45]
    exact l_pa76 hnp hP hfr hp hn48 hbnd h5 h6 h7 h8 (by rw [d12, pk_us]) (by rw [d13, pk_us]; rfl) (by rw [d14, pk_us]) (by rw [d15, pk_us]; rfl) hwq
  · have h45 : sy P p = 45 := (hereI_eq hP.lt (by decide)).mp (Classical.not_not.mp hc)
    have hlt : p < P.2 := Nat.lt_of_not_le fun q => by rw [sy_out q] at h45; omega
    rw [paF, if_pos h45]
    iterate 3 refine go_s rfl rfl rfl trivial ?_
    rw [h7]
    iterate 2 refine go_s rfl rfl rfl trivial ?_
    rw [nI_1]
    iterate 5 refine go_s rfl rfl rfl trivial ?_
    change Go m_Mo_readPart 74 [some (.ref 48), some (.int (nI row)), none] [.int (I 5), .ref 62] (hM T (va_up I 7 (nI (p + 1))) B1 S D) _
    rw [h5]
    iterate 1 refine go_s rfl rfl rfl trivial ?_
    refine go_s rfl rfl rfl ?_ ?_
    · exact vp_in_nI (by omega) (by omega)
    simp only [cn]
    have hfr2 : frp np I B μ (va_up I 7 (nI (p + 1))) (va_up B1 13 (upd (B1 13) np 1)) μ := by
      obtain ⟨a1, a2, a3, a4, a5⟩ := hfr
      refine ⟨fun i q5 q6 q7 q8 => va_up_ne _ _ q7, fun i q2 c12 c13 c14 c15 => (va_up_ne _ _ c13).trans (a2 i q2 c12 c13 c14 c15), fun i c12 c15 j hj => ?_, a4.keep2 rfl rfl, a5⟩
      by_cases e : i = 13
      · subst e
        rw [va_up_self, pk_un hj]
        exact a3 13 c12 c15 j hj
      · rw [va_up_ne _ _ e]
        exact a3 i c12 c15 j hj
    exact l_pa76 hnp hP hfr2 (by omega) hn48 (hbnd.up (Nat.lt_succ_self _)) ((va_up_ne _ _ (by decide)).trans h5) ((va_up_ne _ _ (by decide)).trans h6) (va_up_self _ _ _) ((va_up_ne _ _ (by decide)).trans h8) (by rw [va_up_ne _ _ (by decide), d12, pk_us]) (by rw [va_up_self, pk_us]; rfl) (by rw [va_up_ne _ _ (by decide), d14, pk_us]) (by rw [va_up_ne _ _ (by decide), d15, pk_us]; rfl) hwq
end MQ4
end
section
/-! ===== the reference: a question ===== -/
def mqS (Q : tx_Q) (B : Nat → Nat → Int32) (μ : Nat → List Nat) : Prop := (∀ i, i < Q.1 → B 12 i = nI (Q.2.1 i).1 ∧ B 13 i = nI (srt (Q.2.1 i)) ∧ B 14 i = nI (4016 + (Q.2.1 i).2.2.2.1) ∧ B 15 i = nI (Q.2.1 i).2.2.2.2) ∧ ∀ j, j < Q.2.2.1 → μ (4016 + j) = Q.2.2.2 j
def frQ (I0 : Nat → Int32) (B0 : Nat → Nat → Int32) (μ0 : Nat → List Nat) (I : Nat → Int32) (B : Nat → Nat → Int32) (μ : Nat → List Nat) : Prop := (∀ i, i ≠ 5 → i ≠ 6 → i ≠ 7 → i ≠ 8 → I i = I0 i) ∧ (∀ i, 2 ≤ i → i < 12 ∨ 16 ≤ i → B i = B0 i) ∧ wm B μ ∧ ∀ x, x < 4016 ∨ 4064 ≤ x → μ x = μ0 x
theorem frQ.gP {P : tx_P} {I0 I : Nat → Int32} {B0 B : Nat → Nat → Int32} {μ0 μ : Nat → List Nat} (h : frQ I0 B0 μ0 I B μ) (hP : gP P I0 B0) : gP P I B := hP.keep (h.1 0 (by decide) (by decide) (by decide) (by decide)) (h.2.1 2 (by decide) (by decide))
theorem frQ.p {np : Nat} {I0 I I' : Nat → Int32} {B0 B B' : Nat → Nat → Int32} {μ0 μ μ' : Nat → List Nat} (h : frQ I0 B0 μ0 I B μ) (h2 : frp np I B μ I' B' μ') : frQ I0 B0 μ0 I' B' μ' := by
  obtain ⟨a1, a2, a4, a5⟩ := h
  obtain ⟨b1, b2, b3, b4, b5⟩ := h2
  exact ⟨fun i q5 q6 q7 q8 => (b1 i q5 q6 q7 q8).trans (a1 i q5 q6 q7 q8), fun i q2 c => (b2 i q2 (by omega) (by omega) (by omega) (by omega)).trans (a2 i q2 c), b4, fun x hx => (b5 x hx).trans (a5 x hx)⟩
theorem frQ.i {I0 I I' : Nat → Int32} {B0 B : Nat → Nat → Int32} {μ0 μ : Nat → List Nat} (h : frQ I0 B0 μ0 I B μ) (hi : ∀ i, i ≠ 5 → i ≠ 6 → i ≠ 7 → i ≠ 8 → I' i = I i) : frQ I0 B0 μ0 I' B μ :=
  ⟨fun i q5 q6 q7 q8 => (hi i q5 q6 q7 q8).trans (h.1 i q5 q6 q7 q8), h.2⟩
theorem phF_lt (P : tx_P) (b : Nat) : ∀ (f p nw : Nat) (wq : Nat → List Nat) (y : Nat × Nat × (Nat → List Nat)), phF P b f p nw wq = .inr y → p < y.1
  | 0, p, nw, wq, y, h => by simp [phF] at h
  | f + 1, p, nw, wq, y, h => by
    have hg := sk_ge P p
    rw [phF] at h
    split at h
    · injection h with h
      rw [← h]
      show p < sk P p + 1
      omega
    · split at h
      · simp at h
      · split at h
        · simp at h
        · have := phF_lt P b f _ _ _ y h
          omega
theorem paG_lt {P : tx_P} {p row nw : Nat} {neg : Bool} {wq : Nat → List Nat} {y : Nat × tx_q × Nat × (Nat → List Nat)} (h : paG P p row neg nw wq = .inr y) : p < y.1 := by
  rw [paG] at h
  split at h
  · split at h
    · simp at h
    · rename_i z hz
      have := phF_lt P nw 97 _ _ _ _ hz
      injection h with h
      rw [← h]
      show p < z.1
      omega
  · split at h
    · simp at h
    · split at h
      · simp at h
      · split at h
        · injection h with h
          rw [← h]
          show p < p + wl P p + 1
          omega
        · injection h with h
          rw [← h]
          show p < p + wl P p
          omega
theorem paF_lt {P : tx_P} {p row nw : Nat} {wq : Nat → List Nat} {y : Nat × tx_q × Nat × (Nat → List Nat)} (h : paF P p row nw wq = .inr y) : p < y.1 := by
  rw [paF] at h
  split at h
  · have := paG_lt h
    omega
  · exact paG_lt h
def isP (P : tx_P) (p : Nat) : Prop := sy P p = 45 ∨ sy P p = 34 ∨ lq P p ≠ 0
theorem paF_no {P : tx_P} {p row nw : Nat} {wq : Nat → List Nat} (h : ¬ isP P p) : paF P p row nw wq = .inl p := by
  have h1 : ¬ sy P p = 45 := fun q => h (Or.inl q)
  have h2 : ¬ sy P p = 34 := fun q => h (Or.inr (Or.inl q))
  have h3 : lq P p = 0 := Classical.not_not.mp fun q => h (Or.inr (Or.inr q))
  rw [paF, if_neg h1, paG, if_neg h2, if_pos (wl_no h3)]
theorem quF_sk (P : tx_P) (f p row : Nat) (wanted : Bool) (Q : tx_Q) : quF P (f + 1) (sk P p) row wanted Q = quF P (f + 1) p row wanted Q := by
  rw [quF, quF, sk_sk]
def q00 : tx_Q := (0, fun _ => (0, 0, false, 0, 0), 0, fun _ => [])
def quP (I0 : Nat → Int32) (B0 : Nat → Nat → Int32) (μ0 : Nat → List Nat) (z : Nat ⊕ (tx_Q × Nat)) (r : Option Value) (I : Nat → Int32) (B : Nat → Nat → Int32) (μ : Nat → List Nat) : Prop :=
  (∃ I1, I = va_up I1 0 0 ∧ frQ I0 B0 μ0 I1 B μ) ∧ match z with
  | .inl f => I 8 = nI f ∧ f < 300 ∧ ∃ v, r = some (.int v)
  | .inr y => I 8 = -1 ∧ r = some (.int (nI y.2)) ∧ I 5 = nI y.1.1 ∧ y.1.1 ≤ 96 ∧ y.2 ≤ 97 ∧ y.1.2.2.1 ≤ 48 ∧ mqS y.1 B μ
section MQ5
variable {T : Nat → am_C} {D : List am_C} {S : Nat → Int64} {P : tx_P} {I0 : Nat → Int32} {B0 : Nat → Nat → Int32} {μ0 : Nat → List Nat}
theorem l_rq122 {I : Nat → Int32} {B : Nat → Nat → Int32} {μ : Nat → List Nat} {row f q : Nat} {more : Int32} (hfr : frQ I0 B0 μ0 I B μ) (hf : f < 300) (h8 : I 8 = nI f) : Go m_Mo_readQuestion 122 [some (.ref 48), some (.int (nI row)), some (.int more)] [] (hM T I B S D) (fun r h' => ∃ I' B' μ', h' = hM T I' B' S D ∧ quP I0 B0 μ0 (.inl f) r I' B' μ') := by
  have fin : ∀ g : Int32, Go m_Mo_readQuestion 139 [some (.ref 48), some (.int (nI row)), some (.int more)] [.int g, .ref 48] (hM T I B S D) (fun r h' => ∃ I' B' μ', h' = hM T I' B' S D ∧ quP I0 B0 μ0 (.inl f) r I' B' μ') := by
    intro g
    refine go_c rfl rfl rfl (c_needF g (by omega) h8) ?_
    rintro r h3 ⟨rfl, rfl⟩
    iterate 6 refine go_s rfl rfl rfl trivial ?_
    exact go_r rfl rfl rfl trivial ⟨va_up I 0 0, B, μ, rfl, ⟨I, rfl, hfr⟩, (va_up_ne _ _ (by decide)).trans h8, hf, _, rfl⟩
  iterate 6 refine go_s rfl rfl rfl trivial ?_
  refine go_if (fun hc => ?_) (fun hc => ?_)
  · iterate 1 refine go_s rfl rfl rfl trivial ?_
    exact fin _
  · iterate 2 refine go_s rfl rfl rfl trivial ?_
    exact fin _
theorem l_rq47F {I : Nat → Int32} {B : Nat → Nat → Int32} {μ : Nat → List Nat} {row f q : Nat} {more : Int32} (hP0 : gP P I0 B0) (hfr : frQ I0 B0 μ0 I B μ) (hf : f < 300) (h8 : I 8 = nI f) (hq : q < 300) (h7 : I 7 = nI q) : Go m_Mo_readQuestion 47 [some (.ref 48), some (.int (nI row)), some (.int more)] [] (hM T I B S D) (fun r h' => ∃ I' B' μ', h' = hM T I' B' S D ∧ quP I0 B0 μ0 (.inl f) r I' B' μ') := by
  iterate 2 refine go_s rfl rfl rfl trivial ?_
  rw [h8]
  iterate 1 refine go_s rfl rfl rfl trivial ?_
  refine go_if (fun _ => ?_) (fun hc1 => absurd (Int32.not_lt.mp (nI_pos (by omega))) hc1)
  iterate 1 refine go_s rfl rfl rfl trivial ?_
  refine go_c rfl rfl rfl (c_here (hfr.gP hP0) (p := q) (by omega) h7) ?_
  rintro r h3 ⟨rfl, rfl⟩
  iterate 2 refine go_s rfl rfl rfl trivial ?_
  refine go_if (fun hc => ?_) (fun hc => ?_)
  · iterate 4 refine go_s rfl rfl rfl trivial ?_
    refine go_if (fun _ => ?_) (fun hc1 => absurd rfl hc1)
    iterate 2 refine go_s rfl rfl rfl trivial ?_
    refine go_if (fun _ => ?_) (fun hc1 => absurd rfl hc1)
    exact l_rq122 (q := q) hfr hf h8
  · iterate 5 refine go_s rfl rfl rfl trivial ?_
    refine go_if (fun hc1 => absurd hc1 (by decide)) (fun _ => ?_)
    iterate 2 refine go_s rfl rfl rfl trivial ?_
    rw [h8]
    iterate 1 refine go_s rfl rfl rfl trivial ?_
    refine go_if (fun _ => ?_) (fun hc1 => absurd (Int32.not_lt.mp (nI_pos (by omega))) hc1)
    iterate 2 refine go_s rfl rfl rfl trivial ?_
    refine go_if (fun hc1 => absurd hc1 (by decide)) (fun _ => ?_)
    iterate 2 refine go_s rfl rfl rfl trivial ?_
    rw [h8]
    iterate 1 refine go_s rfl rfl rfl trivial ?_
    refine go_if (fun _ => ?_) (fun hc1 => absurd (Int32.not_lt.mp (nI_pos (by omega))) hc1)
    exact l_rq122 (q := q) hfr hf h8
/-- the state while a question is read -/
def rqS (P : tx_P) (I0 : Nat → Int32) (B0 : Nat → Nat → Int32) (μ0 : Nat → List Nat) (p row : Nat) (Q : tx_Q) (I : Nat → Int32) (B : Nat → Nat → Int32) (μ : Nat → List Nat) : Prop := frQ I0 B0 μ0 I B μ ∧ p ≤ P.2 ∧ Q.1 ≤ p ∧ row ≤ p ∧ Q.2.2.1 ≤ 48 ∧ bnd P Q.2.2.1 p ∧ I 5 = nI Q.1 ∧ I 6 = nI (min Q.2.2.1 47) ∧ I 7 = nI p ∧ I 8 = -1 ∧ mqS Q B μ
/-- a part, at 61 -/
theorem l_rq61 {p row : Nat} {Q : tx_Q} {I : Nat → Int32} {B : Nat → Nat → Int32} {μ : Nat → List Nat} {K : Option Value → List am_C → Prop} (hP0 : gP P I0 B0) (hs : rqS P I0 B0 μ0 p row Q I B μ) (hpn : p < P.2)
    (bad : ∀ f I B μ, paF P p row Q.2.2.1 Q.2.2.2 = .inl f → frQ I0 B0 μ0 I B μ → I 8 = nI f → f < 300 → (∃ q, q < 300 ∧ I 7 = nI q) → Go m_Mo_readQuestion 47 [some (.ref 48), some (.int (nI row)), some (.int 1)] [] (hM T I B S D) K)
    (good : ∀ y I B μ, paF P p row Q.2.2.1 Q.2.2.2 = .inr y → rqS P I0 B0 μ0 (sk P y.1) row (Q.1 + 1, va_up Q.2.1 Q.1 y.2.1, y.2.2.1, y.2.2.2) I B μ → Go m_Mo_readQuestion 47 [some (.ref 48), some (.int (nI row)), some (.int 1)] [] (hM T I B S D) K) :
    Go m_Mo_readQuestion 61 [some (.ref 48), some (.int (nI row)), some (.int 1)] [] (hM T I B S D) K := by
  obtain ⟨hfr, s1, s2, s3, s4, s5, h5, h6, h7, h8, hq⟩ := hs
  have hP := hfr.gP hP0
  have hn96 : P.2 ≤ 96 := hP0.2.1
  iterate 2 refine go_s rfl rfl rfl trivial ?_
  refine go_c rfl rfl rfl (c_readPart (np := Q.1) (row := row) (nw := Q.2.2.1) (p := p) (wq := Q.2.2.2) (by omega) hP hfr.2.2.1 s1 s4 s5 h5 h6 h7 h8 hq.2) ?_
  rintro r h3 ⟨rfl, I1, B1, μ1, rfl, g1, g2⟩
  have hfr1 := hfr.p g1
  cases hz : paF P p row Q.2.2.1 Q.2.2.2 with
  | inl f =>
    rw [hz] at g2
    obtain ⟨k1, k2, k3⟩ := g2
    iterate 2 refine go_s rfl rfl rfl trivial ?_
    rw [k1]
    iterate 1 refine go_s rfl rfl rfl trivial ?_
    refine go_if (fun _ => ?_) (fun hc1 => absurd (Int32.not_lt.mp (nI_pos (by omega))) hc1)
    exact bad f I1 B1 μ1 hz hfr1 k1 k2 k3
  | inr y =>
    rw [hz] at g2
    obtain ⟨k1, k2, k3, k4, ⟨k5, k6, k7, k8⟩, k9, k10, k11, k12⟩ := g2
    have hlt := paF_lt hz
    have hsg := sk_ge P y.1
    have hsl := sk_le k11
    iterate 2 refine go_s rfl rfl rfl trivial ?_
    rw [k4]
    iterate 1 refine go_s rfl rfl rfl trivial ?_
    refine go_if (fun hc1 => absurd hc1 (by decide)) (fun _ => ?_)
    iterate 1 refine go_s rfl rfl rfl trivial ?_
    refine go_c rfl rfl rfl (c_skip (hfr1.gP hP0) (p := y.1) (by omega) k3) ?_
    rintro r h3 ⟨rfl, rfl⟩
    iterate 1 refine go_s rfl rfl rfl trivial ?_
    refine good y (va_up I1 7 (nI (sk P y.1))) B1 μ1 hz ⟨hfr1.i (fun i _ _ a _ => va_up_ne _ _ a), hsl, by show Q.1 + 1 ≤ sk P y.1; omega, by omega, k12, k10.le hsg, (va_up_ne _ _ (by decide)).trans k1, (va_up_ne _ _ (by decide)).trans k2, va_up_self _ _ _, (va_up_ne _ _ (by decide)).trans k4, fun i hi => ?_, k9⟩
    have hi' : i < Q.1 + 1 := hi
    by_cases e : i = Q.1
    · show B1 12 i = nI (va_up Q.2.1 Q.1 y.2.1 i).1 ∧ B1 13 i = nI (srt (va_up Q.2.1 Q.1 y.2.1 i)) ∧ B1 14 i = nI (4016 + (va_up Q.2.1 Q.1 y.2.1 i).2.2.2.1) ∧ B1 15 i = nI (va_up Q.2.1 Q.1 y.2.1 i).2.2.2.2
      rw [e, va_up_self]
      exact ⟨k5, k6, k7, k8⟩
    · show B1 12 i = nI (va_up Q.2.1 Q.1 y.2.1 i).1 ∧ B1 13 i = nI (srt (va_up Q.2.1 Q.1 y.2.1 i)) ∧ B1 14 i = nI (4016 + (va_up Q.2.1 Q.1 y.2.1 i).2.2.2.1) ∧ B1 15 i = nI (va_up Q.2.1 Q.1 y.2.1 i).2.2.2.2
      rw [va_up_ne _ _ e, g1.2.2.1 12 (by decide) (by decide) i e, g1.2.2.1 13 (by decide) (by decide) i e, g1.2.2.1 14 (by decide) (by decide) i e, g1.2.2.1 15 (by decide) (by decide) i e]
      exact hq.1 i (by omega)
theorem l_rq (hP0 : gP P I0 B0) : ∀ (f p row : Nat) (Q : tx_Q) (I : Nat → Int32) (B : Nat → Nat → Int32) (μ : Nat → List Nat), P.2 - p < f → rqS P I0 B0 μ0 p row Q I B μ →
    Go m_Mo_readQuestion 24 [some (.ref 48), some (.int (nI row)), some (.int 1)] [] (hM T I B S D) (fun r h' => ∃ I' B' μ', h' = hM T I' B' S D ∧ quP I0 B0 μ0 (quF P f p row true Q) r I' B' μ') ∧
    (sk P p = p → Go m_Mo_readQuestion 47 [some (.ref 48), some (.int (nI row)), some (.int 1)] [] (hM T I B S D) (fun r h' => ∃ I' B' μ', h' = hM T I' B' S D ∧ quP I0 B0 μ0 (quF P f p row false Q) r I' B' μ')) := by
  intro f
  have hn96 : P.2 ≤ 96 := hP0.2.1
  induction f with
  | zero => intro p row Q I B μ hf; omega
  | succ f ih =>
    intro p row Q I B μ hf hs
    constructor
    · obtain ⟨hfr, s1, s2, s3, s4, s5, h5, h6, h7, h8, hq⟩ := id hs
      have hP := hfr.gP hP0
      have hsg := sk_ge P p
      have hsl := sk_le s1
      iterate 2 refine go_s rfl rfl rfl trivial ?_
      refine go_if (fun hc1 => absurd hc1 (by decide)) (fun _ => ?_)
      iterate 2 refine go_s rfl rfl rfl trivial ?_
      rw [h8]
      iterate 1 refine go_s rfl rfl rfl trivial ?_
      refine go_if (fun hc1 => absurd hc1 (by decide)) (fun _ => ?_)
      iterate 1 refine go_s rfl rfl rfl trivial ?_
      refine go_c rfl rfl rfl (c_skip hP (p := p) (by omega) h7) ?_
      rintro r h3 ⟨rfl, rfl⟩
      have hfr1 : frQ I0 B0 μ0 (va_up I 7 (nI (sk P p))) B μ := hfr.i (fun i _ _ a _ => va_up_ne _ _ a)
      have hP1 := hfr1.gP hP0
      have hs1 : rqS P I0 B0 μ0 (sk P p) row Q (va_up I 7 (nI (sk P p))) B μ := ⟨hfr1, hsl, by omega, by omega, s4, s5.le hsg, (va_up_ne _ _ (by decide)).trans h5, (va_up_ne _ _ (by decide)).trans h6, va_up_self _ _ _, (va_up_ne _ _ (by decide)).trans h8, hq⟩
      iterate 2 refine go_s rfl rfl rfl trivial ?_
      refine go_c rfl rfl rfl (c_isPart hP1 (p := sk P p) (by omega) (va_up_self _ _ _)) ?_
      rintro r h3 ⟨rfl, rfl⟩
      by_cases hpart : isP P (sk P p)
      · rw [b01_t (P := sy P (sk P p) = 45 ∨ sy P (sk P p) = 34 ∨ lq P (sk P p) ≠ 0) hpart]
        have hpn : sk P p < P.2 := Nat.lt_of_not_le fun q => by
          rcases hpart with h | h | h
          · rw [sy_out q] at h; omega
          · rw [sy_out q] at h; omega
          · exact h (lq_out q)
        have e0 : quF P (f + 1) p row true Q = match paF P (sk P p) row Q.2.2.1 Q.2.2.2 with
            | .inl g => .inl g
            | .inr y => quF P f y.1 row false (Q.1 + 1, va_up Q.2.1 Q.1 y.2.1, y.2.2.1, y.2.2.2) := by
          rw [quF, if_neg (by omega), if_neg (fun q => by cases q.1)]
          rfl
        rw [e0]
        refine go_c rfl rfl rfl (c_need1 _ _ _ _ _) ?_
        rintro r h3 ⟨rfl, rfl⟩
        iterate 2 refine go_s rfl rfl rfl trivial ?_
        rw [show va_up I 7 (nI (sk P p)) 8 = -1 from (va_up_ne _ _ (by decide)).trans h8]
        iterate 1 refine go_s rfl rfl rfl trivial ?_
        refine go_if (fun hc1 => absurd hc1 (by decide)) (fun _ => ?_)
        iterate 1 refine go_s rfl rfl rfl trivial ?_
        refine go_c rfl rfl rfl (c_isPart hP1 (p := sk P p) (by omega) (va_up_self _ _ _)) ?_
        rintro r h3 ⟨rfl, rfl⟩
        iterate 1 refine go_s rfl rfl rfl trivial ?_
        refine go_if (fun hc1 => absurd hpart (b01_eq0.mp hc1)) (fun _ => ?_)
        refine l_rq61 hP0 hs1 hpn (fun g I2 B2 μ2 hz hf2 k8 kg kq => ?_) (fun y I2 B2 μ2 hz hs2 => ?_)
        · obtain ⟨q, kq1, kq2⟩ := kq
          rw [hz]
          exact l_rq47F hP0 hf2 kg k8 kq1 kq2
        · rw [hz]
          have hlt := paF_lt hz
          have hsg2 := sk_ge P y.1
          obtain ⟨f', rfl⟩ : ∃ f', f = f' + 1 := ⟨f - 1, by omega⟩
          have := (ih (sk P y.1) row _ I2 B2 μ2 (by omega) hs2).2 (sk_sk _ _)
          rw [quF_sk] at this
          exact this
      · rw [b01_f (P := sy P (sk P p) = 45 ∨ sy P (sk P p) = 34 ∨ lq P (sk P p) ≠ 0) hpart]
        have e0 : quF P (f + 1) p row true Q = .inl (sk P p) := by
          rw [quF]
          by_cases q : P.2 ≤ sk P p
          · rw [if_pos q, if_pos rfl]
          · rw [if_neg q, if_neg (fun q => by cases q.1), paF_no hpart]
        rw [e0]
        refine go_c rfl rfl rfl (c_need0 (I := va_up I 7 (nI (sk P p))) ((va_up_ne _ _ (by decide)).trans h8)) ?_
        rintro r h3 ⟨rfl, rfl⟩
        rw [show va_up I 7 (nI (sk P p)) 7 = nI (sk P p) from va_up_self _ _ _]
        exact l_rq47F hP0 (hfr1.i (fun i _ _ _ a => va_up_ne _ _ a)) (f := sk P p) (by omega) (va_up_self _ _ _) (q := sk P p) (by omega) ((va_up_ne _ _ (by decide)).trans (va_up_self _ _ _))
    · intro hsk
      obtain ⟨hfr, s1, s2, s3, s4, s5, h5, h6, h7, h8, hq⟩ := id hs
      have hP := hfr.gP hP0
      iterate 2 refine go_s rfl rfl rfl trivial ?_
      rw [h8]
      iterate 1 refine go_s rfl rfl rfl trivial ?_
      refine go_if (fun hc1 => absurd hc1 (by decide)) (fun _ => ?_)
      iterate 1 refine go_s rfl rfl rfl trivial ?_
      refine go_c rfl rfl rfl (c_isPart hP (p := p) (by omega) h7) ?_
      rintro r h3 ⟨rfl, rfl⟩
      iterate 1 refine go_s rfl rfl rfl trivial ?_
      by_cases hpart : isP P p
      · refine go_if (fun hc1 => absurd hpart (b01_eq0.mp hc1)) (fun _ => ?_)
        have hpn : p < P.2 := Nat.lt_of_not_le fun q => by
          rcases hpart with h | h | h
          · rw [sy_out q] at h; omega
          · rw [sy_out q] at h; omega
          · exact h (lq_out q)
        have h124 : ¬ sy P p = 124 := fun q => by
          rcases hpart with h | h | h
          · rw [q] at h; omega
          · rw [q] at h; omega
          · exact (lq_sy h).2.2.2.2.1 q
        have e0 : quF P (f + 1) p row false Q = match paF P p row Q.2.2.1 Q.2.2.2 with
            | .inl g => .inl g
            | .inr y => quF P f y.1 row false (Q.1 + 1, va_up Q.2.1 Q.1 y.2.1, y.2.2.1, y.2.2.2) := by
          rw [quF, hsk, if_neg (by omega), if_neg (fun q => h124 q.2)]
          rfl
        rw [e0]
        refine l_rq61 hP0 hs hpn (fun g I2 B2 μ2 hz hf2 k8 kg kq => ?_) (fun y I2 B2 μ2 hz hs2 => ?_)
        · obtain ⟨q, kq1, kq2⟩ := kq
          rw [hz]
          exact l_rq47F hP0 hf2 kg k8 kq1 kq2
        · rw [hz]
          have hlt := paF_lt hz
          have hsg2 := sk_ge P y.1
          obtain ⟨f', rfl⟩ : ∃ f', f = f' + 1 := ⟨f - 1, by omega⟩
          have := (ih (sk P y.1) row _ I2 B2 μ2 (by omega) hs2).2 (sk_sk _ _)
          rw [quF_sk] at this
          exact this
      · refine go_if (fun _ => ?_) (fun hc1 => absurd (b01_f hpart) hc1)
        iterate 1 refine go_s rfl rfl rfl trivial ?_
        refine go_c rfl rfl rfl (c_here hP (p := p) (by omega) h7) ?_
        rintro r h3 ⟨rfl, rfl⟩
        iterate 2 refine go_s rfl rfl rfl trivial ?_
        refine go_if (fun hc => ?_) (fun hc => ?_)
        · have h124 : ¬ sy P p = 124 := fun q => hc ((hereI_eq hP.lt (by decide)).mpr q)
          iterate 4 refine go_s rfl rfl rfl trivial ?_
          refine go_if (fun _ => ?_) (fun hc1 => absurd rfl hc1)
          iterate 2 refine go_s rfl rfl rfl trivial ?_
          refine go_if (fun _ => ?_) (fun hc1 => absurd rfl hc1)
          iterate 3 refine go_s rfl rfl rfl trivial ?_
          rw [h7]
          iterate 2 refine go_s rfl rfl rfl trivial ?_
          rw [(hP.1 : I 0 = nI P.2)]
          iterate 1 refine go_s rfl rfl rfl trivial ?_
          refine go_if (fun hc2 => ?_) (fun hc2 => ?_)
          · have hpn : ¬ P.2 ≤ p := fun q => hc2 (by rw [show p = P.2 by omega])
            have e0 : quF P (f + 1) p row false Q = .inl p := by
              rw [quF, hsk, if_neg hpn, if_neg (fun q => h124 q.2), paF_no hpart]
            rw [e0]
            iterate 1 refine go_s rfl rfl rfl trivial ?_
            refine go_c rfl rfl rfl (c_need0 h8) ?_
            rintro r h3 ⟨rfl, rfl⟩
            rw [h7]
            iterate 6 refine go_s rfl rfl rfl trivial ?_
            exact go_r rfl rfl rfl trivial ⟨va_up (va_up I 8 (nI p)) 0 0, B, μ, rfl, ⟨_, rfl, hfr.i (fun i _ _ _ a => va_up_ne _ _ a)⟩, (va_up_ne _ _ (by decide)).trans (va_up_self _ _ _), by omega, _, rfl⟩
          · have hpn : P.2 ≤ p := by
              have := nI_inj (by omega) (by omega) (Classical.not_not.mp hc2)
              omega
            have e0 : quF P (f + 1) p row false Q = .inr (Q, row + 1) := by
              rw [quF, hsk, if_pos hpn, if_neg (by decide)]
            rw [e0]
            iterate 2 refine go_s rfl rfl rfl trivial ?_
            refine go_c rfl rfl rfl (c_need1 _ _ _ _ _) ?_
            rintro r h3 ⟨rfl, rfl⟩
            iterate 6 refine go_s rfl rfl rfl trivial ?_
            refine go_r rfl rfl rfl trivial ⟨va_up I 0 0, B, μ, rfl, ⟨I, rfl, hfr⟩, (va_up_ne _ _ (by decide)).trans h8, by rw [nI_1], (va_up_ne _ _ (by decide)).trans h5, by show Q.1 ≤ 96; omega, by show row + 1 ≤ 97; omega, s4, hq⟩
        · have h124 : sy P p = 124 := (hereI_eq hP.lt (by decide)).mp (Classical.not_not.mp hc)
          have hpn : p < P.2 := Nat.lt_of_not_le fun q => by rw [sy_out q] at h124; omega
          have e0 : quF P (f + 1) p row false Q = quF P f (p + 1) (row + 1) true Q := by
            rw [quF, hsk, if_neg (by omega), if_pos ⟨rfl, h124⟩]
          rw [e0]
          iterate 5 refine go_s rfl rfl rfl trivial ?_
          refine go_if (fun hc1 => absurd hc1 (by decide)) (fun _ => ?_)
          iterate 2 refine go_s rfl rfl rfl trivial ?_
          rw [h8]
          iterate 1 refine go_s rfl rfl rfl trivial ?_
          refine go_if (fun hc1 => absurd hc1 (by decide)) (fun _ => ?_)
          iterate 3 refine go_s rfl rfl rfl trivial ?_
          rw [h7]
          iterate 2 refine go_s rfl rfl rfl trivial ?_
          rw [nI_1]
          iterate 2 refine go_s rfl rfl rfl trivial ?_
          rw [nI_1]
          iterate 1 refine go_s rfl rfl rfl trivial ?_
          refine (ih (p + 1) (row + 1) Q (va_up I 7 (nI (p + 1))) B μ (by omega) ⟨hfr.i (fun i _ _ a _ => va_up_ne _ _ a), hpn, by omega, by omega, s4, s5.up (Nat.lt_succ_self _), (va_up_ne _ _ (by decide)).trans h5, (va_up_ne _ _ (by decide)).trans h6, va_up_self _ _ _, (va_up_ne _ _ (by decide)).trans h8, hq⟩).1
theorem c_readQuestion {I : Nat → Int32} {B : Nat → Nat → Int32} {μ : Nat → List Nat} (hP : gP P I B) (hw : wm B μ) : Do m_Mo_readQuestion [.ref 48] (hM T I B S D) (fun r h' => ∃ I' B' μ', h' = hM T I' B' S D ∧ quP I B μ (quF P 97 0 0 true q00) r I' B' μ') := by
  have hn96 : P.2 ≤ 96 := hP.2.1
  iterate 16 refine go_s rfl rfl rfl trivial ?_
  exact (l_rq (T := T) (D := D) (S := S) (μ0 := μ) hP 97 0 0 q00 (va_up (va_up (va_up (va_up I 7 0) 8 (-1)) 5 0) 6 0) B μ (by omega) ⟨⟨fun i a5 a6 a7 a8 => (va_up_ne _ _ a6).trans ((va_up_ne _ _ a5).trans ((va_up_ne _ _ a8).trans (va_up_ne _ _ a7))), fun _ _ _ => rfl, hw, fun _ _ => rfl⟩, Nat.zero_le _, Nat.le_refl _, Nat.le_refl _, by show 0 ≤ 48; omega, Or.inl (Nat.le_refl _), rfl, rfl, rfl, rfl, fun i hi => absurd hi (Nat.not_lt_zero i), fun i hi => absurd hi (Nat.not_lt_zero i)⟩).1
end MQ5
end
section
/-! ===== the reference: phrases, parts, rows of a question, as texts answer them ===== -/
theorem hasQ0 {o : Option (List Nat)} {v : List Nat} : hasQ 0 o v ↔ o = some v := by
  constructor
  · rintro ⟨u, hu, hu2⟩
    rcases hu2 with ⟨-, q⟩ | ⟨q, -⟩
    · rw [hu, q]
    · exact absurd q (by decide)
  · intro h
    exact ⟨v, h, Or.inl ⟨rfl, rfl⟩⟩
/-- the state while a question is answered -/
def qS (X : tx_X) (E : Nat → List Nat → Option (List Nat)) (Q : tx_Q) (I : Nat → Int32) (B : Nat → Nat → Int32) (μ : Nat → List Nat) : Prop := wm B μ ∧ menv I B μ E ∧ mtx I B μ (xnt X) (xlg X) (xfd X) (xcn X) (xwd X) ∧ mqS Q B μ ∧ Q.1 ≤ 96 ∧ Q.2.2.1 ≤ 48 ∧ I 5 = nI Q.1
theorem qS.keepc {X : tx_X} {E : Nat → List Nat → Option (List Nat)} {Q : tx_Q} {k : Nat} {I : Nat → Int32} {B B' : Nat → Nat → Int32} {μ μ' : Nat → List Nat} (h : qS X E Q I B μ) (hs : wsc k B μ B' μ') (hk : 4064 ≤ k) : qS X E Q I B' μ' := by
  obtain ⟨h1, h2, h3, ⟨h4, h4b⟩, h5, h6, h7⟩ := h
  refine ⟨hs.2.1, h2.keepc hs (by omega), h3.keepc hs (by omega), ⟨fun i hi => ?_, fun j hj => (hs.2.2 _ (by omega)).trans (h4b j hj)⟩, h5, h6, h7⟩
  rw [hs.1 12 (by omega), hs.1 13 (by omega), hs.1 14 (by omega), hs.1 15 (by omega)]
  exact h4 i hi
theorem wsc.le {k k' : Nat} {B B' : Nat → Nat → Int32} {μ μ' : Nat → List Nat} (h : wsc k B μ B' μ') (hk : k' ≤ k) : wsc k' B μ B' μ' := ⟨h.1, h.2.1, fun a ha => h.2.2 a (by omega)⟩
def okW (E : Nat → List Nat → Option (List Nat)) (X : tx_X) (l t : Nat) (wq : Nat → List Nat) (first f k : Nat) : Prop := E l (wq (first + k)) = none ∨ E l (xwd X t (f + k)) = E l (wq (first + k))
def phQ (E : Nat → List Nat → Option (List Nat)) (X : tx_X) (l t : Nat) (wq : Nat → List Nat) (first n : Nat) : Prop := ∃ f, f + n ≤ xcn X t ∧ ∀ k, k < n → okW E X l t wq first f k
/-- how often a text has a stem (begins: one that begins so) -/
noncomputable def tmQ (E : Nat → List Nat → Option (List Nat)) (X : tx_X) (l t : Nat) (b : Int32) (v : List Nat) : Nat := cnt (fun j => hasQ b (E l (xwd X t j)) v) (xcn X t)
def paQ (E : Nat → List Nat → Option (List Nat)) (X : tx_X) (l t : Nat) (wq : Nat → List Nat) (q : tx_q) : Prop :=
  if q.2.1 = 2 then phQ E X l t wq q.2.2.2.1 q.2.2.2.2 else if q.2.1 = 1 then 0 < tmQ E X l t 1 (wq q.2.2.2.1) else ∃ u, E l (wq q.2.2.2.1) = some u ∧ 0 < tmQ E X l t 0 u
def rwQ (E : Nat → List Nat → Option (List Nat)) (X : tx_X) (l t : Nat) (Q : tx_Q) (r : Nat) : Prop := ∀ p, p < Q.1 → (Q.2.1 p).1 = r → (paQ E X l t Q.2.2.2 (Q.2.1 p) ↔ (Q.2.1 p).2.2.1 = false)
def askedP (X : tx_X) (l t : Nat) (f : Int32) : Prop := xlg X t = some l ∧ (f < 0 ∨ nI (xfd X t) = f)
section MASK1
variable {T : Nat → am_C} {D : List am_C} {I : Nat → Int32} {S : Nat → Int64} {E : Nat → List Nat → Option (List Nat)} {X : tx_X} {Q : tx_Q} {K : Option Value → List am_C → Prop}
theorem qS.txt {B : Nat → Nat → Int32} {μ : Nat → List Nat} (h : qS X E Q I B μ) {t l : Nat} (ht : t < xnt X) (hl : xlg X t = some l) : t < 40 ∧ l < 3 ∧ B 3 t = nI l ∧ B 5 t = nI (xcn X t) ∧ xcn X t ≤ 48 ∧ ∀ p, p < xcn X t → μ (48 * t + p) = xwd X t p := by
  obtain ⟨h1, h2, ⟨x1, x2, x3⟩, h4⟩ := h
  obtain ⟨k1, k2, k3, k4, k5, k6, k7⟩ := x3 t ht
  refine ⟨by omega, k2 l hl, by rw [k1, hl]; rfl, k5, k6, k7⟩
/-- how often -/
theorem c_tms {B : Nat → Nat → Int32} {μ : Nat → List Nat} (hq : qS X E Q I B μ) {t l a : Nat} {f : Int32} {v : List Nat} (ht : t < xnt X) (hl : xlg X t = some l) (ha : a < 6034) (ha2 : a ≠ 6032) (hf : f = 0 ∨ f = 1) (hv : μ a = v) :
    Do m_Mo_times [.ref 48, .int (nI t), .int (nI a), .int f] (hM T I B S D) (fun r h' => r = some (.int (nI (tmQ E X l t f v))) ∧ ∃ B' μ', h' = hM T I B' S D ∧ wsc 6032 B μ B' μ' ∧ μ' 6033 = μ 6033) := by
  obtain ⟨t40, l3, b3, b5, c48, hwd⟩ := hq.txt ht hl
  refine (c_times hq.1 hq.2.1 t40 l3 b3 b5 c48 ha ha2 hf).mono fun r h' h => ?_
  obtain ⟨g1, B1, w1, g2, g3, g4⟩ := h
  refine ⟨?_, B1, _, g2, wsc.up g3 g4 (Nat.le_refl _), va_up_ne _ _ (by decide)⟩
  rw [g1, hv, tmQ]
  congr 3
  refine cnt_congr _ fun j hj => ?_
  rw [hwd j hj]
theorem l_hp29z {H : List am_C} {t i n f k : Nat} {X7 : Option Value} (kk : Go m_Mo_hasPhrase 106 [some (.ref 48), some (.int (nI t)), some (.int (nI i)), some (.int (nI n)), some (.int (nI f)), some (.int 0), some (.int (nI k)), X7] [] H K) : Go m_Mo_hasPhrase 29 [some (.ref 48), some (.int (nI t)), some (.int (nI i)), some (.int (nI n)), some (.int (nI f)), some (.int 0), some (.int (nI k)), X7] [] H K := by
  iterate 3 refine go_s rfl rfl rfl trivial ?_
  refine go_if (fun _ => kk) (fun _ => ?_)
  iterate 2 refine go_s rfl rfl rfl trivial ?_
  exact go_if (fun _ => kk) (fun h => absurd rfl h)
theorem l_hp29 {t l i f : Nat} (ht : t < xnt X) (hl : xlg X t = some l) (hi : i < Q.1) (hfn : f + (Q.2.1 i).2.2.2.2 ≤ xcn X t) (hqn : (Q.2.1 i).2.2.2.1 + (Q.2.1 i).2.2.2.2 ≤ Q.2.2.1) : ∀ (d k : Nat) (X7 : Option Value) (B : Nat → Nat → Int32) (μ : Nat → List Nat), qS X E Q I B μ → (Q.2.1 i).2.2.2.2 = k + d → (∀ j, j < k → okW E X l t Q.2.2.2 (Q.2.1 i).2.2.2.1 f j) →
    (∀ (g : Int32) (k' : Nat) (X7 : Option Value) (B' : Nat → Nat → Int32) (μ' : Nat → List Nat), wsc 6032 B μ B' μ' → ((g = 1 ∧ ∀ j, j < (Q.2.1 i).2.2.2.2 → okW E X l t Q.2.2.2 (Q.2.1 i).2.2.2.1 f j) ∨ (g = 0 ∧ ¬ ∀ j, j < (Q.2.1 i).2.2.2.2 → okW E X l t Q.2.2.2 (Q.2.1 i).2.2.2.1 f j)) →
      Go m_Mo_hasPhrase 106 [some (.ref 48), some (.int (nI t)), some (.int (nI i)), some (.int (nI (Q.2.1 i).2.2.2.2)), some (.int (nI f)), some (.int g), some (.int (nI k')), X7] [] (hM T I B' S D) K) →
    Go m_Mo_hasPhrase 29 [some (.ref 48), some (.int (nI t)), some (.int (nI i)), some (.int (nI (Q.2.1 i).2.2.2.2)), some (.int (nI f)), some (.int 1), some (.int (nI k)), X7] [] (hM T I B S D) K := by
  have ct : t < 40 → (nI t).toNatClampNeg = t := fun h => nI_clamp (by omega)
  have ci : i < 96 → (nI i).toNatClampNeg = i := fun h => nI_clamp (by omega)
  intro d
  induction d with
  | zero =>
    intro k X7 B μ hq hk hok kk
    obtain ⟨h1, h2, h3, h4, h5, h6, h7⟩ := id hq
    have ek : k = (Q.2.1 i).2.2.2.2 := by omega
    subst ek
    iterate 3 refine go_s rfl rfl rfl trivial ?_
    refine go_if (fun _ => ?_) (fun hc => absurd (Int32.le_refl _) hc)
    exact kk 1 _ X7 B μ (wsc.rf h1) (Or.inl ⟨rfl, hok⟩)
  | succ d ih =>
    intro k X7 B μ hq hk hok kk
    obtain ⟨h1, h2, h3, h4, h5, h6, h7⟩ := id hq
    obtain ⟨t40, l3, b3, b5, c48, hwd⟩ := hq.txt ht hl
    obtain ⟨m12, m13, m14, m15⟩ := h4.1 i hi
    have hwq : μ (4016 + (Q.2.1 i).2.2.2.1 + k) = Q.2.2.2 ((Q.2.1 i).2.2.2.1 + k) := by
      rw [Nat.add_assoc]
      exact h4.2 _ (by omega)
    iterate 3 refine go_s rfl rfl rfl trivial ?_
    refine go_if (fun hc => absurd hc (nI_ge (by omega) (by omega))) (fun _ => ?_)
    iterate 2 refine go_s rfl rfl rfl trivial ?_
    refine go_if (fun hc => absurd hc (by decide)) (fun _ => ?_)
    iterate 3 refine go_s rfl rfl rfl trivial ?_
    refine go_s rfl rfl rfl ?_ ?_
    · exact vp_in_nI (by omega) (by omega)
    simp only [ci (by omega), m14]
    iterate 2 refine go_s rfl rfl rfl trivial ?_
    rw [nI_add]
    iterate 5 refine go_s rfl rfl rfl trivial ?_
    refine go_s rfl rfl rfl ?_ ?_
    · exact vp_in_nI (by omega) (by omega)
    simp only [ct t40, b3]
    iterate 1 refine go_s rfl rfl rfl trivial ?_
    refine go_c rfl rfl rfl (c_isStop_E h1 h2 (a := 4016 + (Q.2.1 i).2.2.2.1 + k) (by omega) l3) ?_
    rintro r h0 ⟨rfl, rfl⟩
    rw [hwq]
    iterate 1 refine go_s rfl rfl rfl trivial ?_
    refine go_if (fun hc => ?_) (fun hc => ?_)
    · have hn := b01_eq0.mp hc
      obtain ⟨u, hu⟩ : ∃ u, E l (Q.2.2.2 ((Q.2.1 i).2.2.2.1 + k)) = some u := by
        cases q : E l (Q.2.2.2 ((Q.2.1 i).2.2.2.1 + k)) with
        | none => exact absurd q hn
        | some u => exact ⟨u, rfl⟩
      iterate 4 refine go_s rfl rfl rfl trivial ?_
      refine go_s rfl rfl rfl ?_ ?_
      · exact vp_in_nI (by omega) (by omega)
      simp only [ct t40, b3]
      iterate 2 refine go_s rfl rfl rfl trivial ?_
      refine go_c rfl rfl rfl (c_stemTo_E h1 h2 l3 (a := 4016 + (Q.2.1 i).2.2.2.1 + k) (to := 6033) (by omega) (by omega) (by omega) (by omega) (by rw [hwq]; exact hu)) ?_
      rintro r h0 ⟨rfl, B1, rfl, hs1, hw1⟩
      have w1 : wsc 6033 B μ B1 (va_up μ 6033 u) := wsc.up hs1 hw1 (by omega)
      have hq1 := hq.keepc w1 (by omega)
      obtain ⟨-, -, c3, c5, -, hwd1⟩ := hq1.txt ht hl
      iterate 5 refine go_s rfl rfl rfl trivial ?_
      rw [nI_add]
      iterate 2 refine go_s rfl rfl rfl trivial ?_
      refine go_c rfl rfl rfl (c_hasAt hq1.1 hq1.2.1 (t := t) (p := f + k) (a := 6033) (f := 0) t40 (by omega) l3 c3 (by omega) (by omega) (Or.inl rfl)) ?_
      rintro r h0 ⟨rfl, B2, w2, rfl, hs2, hw2⟩
      have w2 : wsc 6032 B μ B2 _ := (w1.le (by omega)).tr (wsc.up hs2 hw2 (by omega))
      rw [hwd1 (f + k) (by omega), va_up_self]
      iterate 3 refine go_s rfl rfl rfl trivial ?_
      rw [nI_1]
      by_cases hh : hasQ 0 (E l (xwd X t (f + k))) u
      · rw [b01_t hh]
        refine ih (k + 1) _ B2 _ (hq.keepc w2 (by omega)) (by omega) (fun j hj => ?_) (fun g k' X7 B' μ' hs h => kk g k' X7 B' μ' (w2.tr hs) h)
        rcases Nat.lt_or_ge j k with h | h
        · exact hok j h
        · rw [show j = k by omega]
          right
          rw [hu]
          exact hasQ0.mp hh
      · rw [b01_f hh]
        refine l_hp29z (kk 0 _ _ B2 _ w2 (Or.inr ⟨rfl, fun h => ?_⟩))
        rcases h k (by omega) with q | q
        · exact hn q
        · rw [hu] at q
          exact hh (hasQ0.mpr q)
    · have hn : E l (Q.2.2.2 ((Q.2.1 i).2.2.2.1 + k)) = none := Classical.not_not.mp fun q => hc (b01_f q)
      iterate 3 refine go_s rfl rfl rfl trivial ?_
      rw [nI_1]
      refine ih (k + 1) _ B μ hq (by omega) (fun j hj => ?_) kk
      rcases Nat.lt_or_ge j k with h | h
      · exact hok j h
      · rw [show j = k by omega]
        exact Or.inl hn
theorem l_hp10 {t l i : Nat} (ht : t < xnt X) (hl : xlg X t = some l) (hi : i < Q.1) (hqn : (Q.2.1 i).2.2.2.1 + (Q.2.1 i).2.2.2.2 ≤ Q.2.2.1) : ∀ (d f : Nat) (X5 X6 X7 : Option Value) (B : Nat → Nat → Int32) (μ : Nat → List Nat), qS X E Q I B μ → xcn X t + 1 - (f + (Q.2.1 i).2.2.2.2) = d → (∀ f', f' < f → ¬ ∀ k, k < (Q.2.1 i).2.2.2.2 → okW E X l t Q.2.2.2 (Q.2.1 i).2.2.2.1 f' k) → f < 100 →
    Go m_Mo_hasPhrase 10 [some (.ref 48), some (.int (nI t)), some (.int (nI i)), some (.int (nI (Q.2.1 i).2.2.2.2)), some (.int (nI f)), X5, X6, X7] [] (hM T I B S D) (fun r h' => r = some (.int (b01 (phQ E X l t Q.2.2.2 (Q.2.1 i).2.2.2.1 (Q.2.1 i).2.2.2.2))) ∧ ∃ B' μ', h' = hM T I B' S D ∧ wsc 6032 B μ B' μ') := by
  intro d
  induction d with
  | zero =>
    intro f X5 X6 X7 B μ hq hd hno hf
    obtain ⟨h1, h2, h3, h4, h5, h6, h7⟩ := id hq
    obtain ⟨t40, l3, b3, b5, c48, hwd⟩ := hq.txt ht hl
    have ct : (nI t).toNatClampNeg = t := nI_clamp (by omega)
    iterate 3 refine go_s rfl rfl rfl trivial ?_
    rw [nI_add]
    iterate 3 refine go_s rfl rfl rfl trivial ?_
    refine go_s rfl rfl rfl ?_ ?_
    · exact vp_in_nI (by omega) (by omega)
    simp only [ct, b5]
    iterate 1 refine go_s rfl rfl rfl trivial ?_
    refine go_if (fun _ => ?_) (fun hc => absurd ((nI_ltI (by omega) (by omega)).mpr (by omega)) hc)
    iterate 1 refine go_s rfl rfl rfl trivial ?_
    refine go_r rfl rfl rfl (Or.inl rfl) ⟨?_, B, μ, rfl, wsc.rf h1⟩
    rw [b01_f]
    rintro ⟨f', q1, q2⟩
    exact hno f' (by omega) q2
  | succ d ih =>
    intro f X5 X6 X7 B μ hq hd hno hf
    obtain ⟨h1, h2, h3, h4, h5, h6, h7⟩ := id hq
    obtain ⟨t40, l3, b3, b5, c48, hwd⟩ := hq.txt ht hl
    have ct : (nI t).toNatClampNeg = t := nI_clamp (by omega)
    iterate 3 refine go_s rfl rfl rfl trivial ?_
    rw [nI_add]
    iterate 3 refine go_s rfl rfl rfl trivial ?_
    refine go_s rfl rfl rfl ?_ ?_
    · exact vp_in_nI (by omega) (by omega)
    simp only [ct, b5]
    iterate 1 refine go_s rfl rfl rfl trivial ?_
    refine go_if (fun hc => absurd ((nI_ltI (by omega) (by omega)).mp hc) (by omega)) (fun _ => ?_)
    iterate 4 refine go_s rfl rfl rfl trivial ?_
    refine l_hp29 ht hl hi (by omega) hqn (Q.2.1 i).2.2.2.2 0 X7 B μ hq (by omega) (fun j hj => absurd hj (Nat.not_lt_zero j)) (fun g k' X7 B1 μ1 hs1 hg => ?_)
    iterate 2 refine go_s rfl rfl rfl trivial ?_
    rcases hg with ⟨rfl, hg⟩ | ⟨rfl, hg⟩
    · refine go_if (fun hc => absurd hc (by decide)) (fun _ => ?_)
      iterate 1 refine go_s rfl rfl rfl trivial ?_
      refine go_r rfl rfl rfl (Or.inr rfl) ⟨?_, B1, μ1, rfl, hs1⟩
      rw [b01_t ⟨f, by omega, hg⟩]
    · refine go_if (fun _ => ?_) (fun hc => absurd rfl hc)
      iterate 2 refine go_s rfl rfl rfl trivial ?_
      rw [nI_1]
      refine (ih (f + 1) _ _ _ B1 μ1 (hq.keepc hs1 (by omega)) (by omega) (fun f' hf' => ?_) (by omega)).mono fun r h' h => ?_
      · rcases Nat.lt_or_ge f' f with h | h
        · exact hno f' h
        · rw [show f' = f by omega]
          exact hg
      · obtain ⟨g1, B2, μ2, g2, g3⟩ := h
        exact ⟨g1, B2, μ2, g2, hs1.tr g3⟩
theorem c_hasPhrase {t l i : Nat} {B : Nat → Nat → Int32} {μ : Nat → List Nat} (hq : qS X E Q I B μ) (ht : t < xnt X) (hl : xlg X t = some l) (hi : i < Q.1) (hqn : (Q.2.1 i).2.2.2.1 + (Q.2.1 i).2.2.2.2 ≤ Q.2.2.1) :
    Do m_Mo_hasPhrase [.ref 48, .int (nI t), .int (nI i)] (hM T I B S D) (fun r h' => r = some (.int (b01 (phQ E X l t Q.2.2.2 (Q.2.1 i).2.2.2.1 (Q.2.1 i).2.2.2.2))) ∧ ∃ B' μ', h' = hM T I B' S D ∧ wsc 6032 B μ B' μ') := by
  obtain ⟨h1, h2, h3, h4, h5, h6, h7⟩ := id hq
  obtain ⟨m12, m13, m14, m15⟩ := h4.1 i hi
  have ci : (nI i).toNatClampNeg = i := nI_clamp (by omega)
  iterate 3 refine go_s rfl rfl rfl trivial ?_
  refine go_s rfl rfl rfl ?_ ?_
  · exact vp_in_nI (by omega) (by omega)
  simp only [ci, m15]
  iterate 3 refine go_s rfl rfl rfl trivial ?_
  exact l_hp10 ht hl hi hqn _ 0 none none none B μ hq rfl (fun f' hf' => absurd hf' (Nat.not_lt_zero f')) (by omega)
theorem srt_and (q : tx_q) (hk : q.2.1 < 3) : nI (srt q) &&& 6 = nI (if q.2.1 = 2 then 4 else if q.2.1 = 1 then 2 else 0) := by
  obtain ⟨r, k, b, f, n⟩ := q
  have key : ∀ (k : Nat), k < 3 → ∀ (b : Bool), nI (srt (0, k, b, 0, 0)) &&& 6 = nI (if k = 2 then 4 else if k = 1 then 2 else 0) := by decide +kernel
  exact key k hk b
theorem srt_mod (q : tx_q) (hk : q.2.1 < 3) : nI (srt q) - nI (srt q) / 2 * 2 = nI (if q.2.2.1 = true then 1 else 0) := by
  obtain ⟨r, k, b, f, n⟩ := q
  have key : ∀ (k : Nat), k < 3 → ∀ (b : Bool), nI (srt (0, k, b, 0, 0)) - nI (srt (0, k, b, 0, 0)) / 2 * 2 = nI (if b = true then 1 else 0) := by decide +kernel
  exact key k hk b
theorem srt_zero (q : tx_q) (hk : q.2.1 < 3) : nI (srt q) = 0 ↔ (q.2.1 = 0 ∧ q.2.2.1 = false) := by
  obtain ⟨r, k, b, f, n⟩ := q
  have key : ∀ (k : Nat), k < 3 → ∀ (b : Bool), (nI (srt (0, k, b, 0, 0)) = 0 ↔ (k = 0 ∧ b = false)) := by decide +kernel
  exact key k hk b
/-- whether a text answers a part -/
theorem c_answersPart {t l i : Nat} {B : Nat → Nat → Int32} {μ : Nat → List Nat} (hq : qS X E Q I B μ) (ht : t < xnt X) (hl : xlg X t = some l) (hi : i < Q.1) (hqn : (Q.2.1 i).2.2.2.1 + (Q.2.1 i).2.2.2.2 ≤ Q.2.2.1) (hk3 : (Q.2.1 i).2.1 < 3) (hn1 : 1 ≤ (Q.2.1 i).2.2.2.2) :
    Do m_Mo_answersPart [.ref 48, .int (nI t), .int (nI i)] (hM T I B S D) (fun r h' => r = some (.int (b01 (paQ E X l t Q.2.2.2 (Q.2.1 i)))) ∧ ∃ B' μ', h' = hM T I B' S D ∧ wsc 6032 B μ B' μ') := by
  obtain ⟨h1, h2, h3, h4, h5, h6, h7⟩ := id hq
  obtain ⟨m12, m13, m14, m15⟩ := h4.1 i hi
  obtain ⟨t40, l3, b3, b5, c48, hwd⟩ := hq.txt ht hl
  have ci : (nI i).toNatClampNeg = i := nI_clamp (by omega)
  have ct : (nI t).toNatClampNeg = t := nI_clamp (by omega)
  have hwq : μ (4016 + (Q.2.1 i).2.2.2.1) = Q.2.2.2 (Q.2.1 i).2.2.2.1 := h4.2 _ (by omega)
  have tl : ∀ v b, tmQ E X l t b v ≤ 48 := fun v b => Nat.le_trans (cnt_le _ _) c48
  iterate 3 refine go_s rfl rfl rfl trivial ?_
  refine go_s rfl rfl rfl ?_ ?_
  · exact vp_in_nI (by omega) (by omega)
  simp only [ci, m13]
  iterate 2 refine go_s rfl rfl rfl trivial ?_
  rw [srt_and _ hk3]
  iterate 4 refine go_s rfl rfl rfl trivial ?_
  refine go_s rfl rfl rfl ?_ ?_
  · exact vp_in_nI (by omega) (by omega)
  simp only [ci, m14]
  by_cases k2 : (Q.2.1 i).2.1 = 2
  · rw [if_pos k2, paQ, if_pos k2]
    iterate 4 refine go_s rfl rfl rfl trivial ?_
    refine go_if (fun hc => absurd rfl hc) (fun _ => ?_)
    iterate 3 refine go_s rfl rfl rfl trivial ?_
    refine go_c rfl rfl rfl (c_hasPhrase hq ht hl hi hqn) ?_
    rintro r h0 ⟨rfl, B1, μ1, rfl, hs1⟩
    exact go_r rfl rfl rfl (b01_g _) ⟨rfl, B1, μ1, rfl, hs1⟩
  · rw [if_neg k2, paQ, if_neg k2]
    by_cases k1 : (Q.2.1 i).2.1 = 1
    · rw [if_pos k1, if_pos k1]
      iterate 4 refine go_s rfl rfl rfl trivial ?_
      refine go_if (fun _ => ?_) (fun hc => absurd (by decide) hc)
      iterate 3 refine go_s rfl rfl rfl trivial ?_
      refine go_if (fun hc => absurd rfl hc) (fun _ => ?_)
      iterate 4 refine go_s rfl rfl rfl trivial ?_
      refine go_c rfl rfl rfl (c_tms hq ht hl (a := 4016 + (Q.2.1 i).2.2.2.1) (f := 1) (by omega) (by omega) (Or.inr rfl) hwq) ?_
      rintro r h0 ⟨rfl, B1, μ1, rfl, hs1, -⟩
      have := tl (Q.2.2.2 (Q.2.1 i).2.2.2.1) 1
      iterate 1 refine go_s rfl rfl rfl trivial ?_
      refine go_if (fun hc => ?_) (fun hc => ?_)
      · have : ¬ 0 < tmQ E X l t 1 (Q.2.2.2 (Q.2.1 i).2.2.2.1) := fun q => nI_nle q (by omega) hc
        iterate 1 refine go_s rfl rfl rfl trivial ?_
        refine go_r rfl rfl rfl (Or.inl rfl) ⟨by rw [b01_f this], B1, μ1, rfl, hs1⟩
      · have : 0 < tmQ E X l t 1 (Q.2.2.2 (Q.2.1 i).2.2.2.1) := Nat.pos_of_ne_zero fun q => hc (by rw [q]; decide)
        iterate 2 refine go_s rfl rfl rfl trivial ?_
        refine go_r rfl rfl rfl (Or.inr rfl) ⟨by rw [b01_t this], B1, μ1, rfl, hs1⟩
    · rw [if_neg k1, if_neg k1]
      iterate 4 refine go_s rfl rfl rfl trivial ?_
      refine go_if (fun _ => ?_) (fun hc => absurd (by decide) hc)
      iterate 3 refine go_s rfl rfl rfl trivial ?_
      refine go_if (fun _ => ?_) (fun hc => absurd (by decide) hc)
      iterate 4 refine go_s rfl rfl rfl trivial ?_
      refine go_s rfl rfl rfl ?_ ?_
      · exact vp_in_nI (by omega) (by omega)
      simp only [ct, b3]
      iterate 1 refine go_s rfl rfl rfl trivial ?_
      refine go_c rfl rfl rfl (c_isStop_E h1 h2 (a := 4016 + (Q.2.1 i).2.2.2.1) (by omega) l3) ?_
      rintro r h0 ⟨rfl, rfl⟩
      rw [hwq]
      iterate 1 refine go_s rfl rfl rfl trivial ?_
      refine go_if (fun hc => ?_) (fun hc => ?_)
      · have hn := b01_eq0.mp hc
        obtain ⟨u, hu⟩ : ∃ u, E l (Q.2.2.2 (Q.2.1 i).2.2.2.1) = some u := by
          cases q : E l (Q.2.2.2 (Q.2.1 i).2.2.2.1) with
          | none => exact absurd q hn
          | some u => exact ⟨u, rfl⟩
        iterate 4 refine go_s rfl rfl rfl trivial ?_
        refine go_s rfl rfl rfl ?_ ?_
        · exact vp_in_nI (by omega) (by omega)
        simp only [ct, b3]
        iterate 2 refine go_s rfl rfl rfl trivial ?_
        refine go_c rfl rfl rfl (c_stemTo_E h1 h2 l3 (a := 4016 + (Q.2.1 i).2.2.2.1) (to := 6033) (by omega) (by omega) (by omega) (by omega) (by rw [hwq]; exact hu)) ?_
        rintro r h0 ⟨rfl, B1, rfl, hs1, hw1⟩
        have w1 : wsc 6032 B μ B1 (va_up μ 6033 u) := wsc.up hs1 hw1 (by omega)
        have hq1 := hq.keepc w1 (by omega)
        iterate 4 refine go_s rfl rfl rfl trivial ?_
        refine go_c rfl rfl rfl (c_tms hq1 ht hl (a := 6033) (f := 0) (v := u) (by omega) (by omega) (Or.inl rfl) (va_up_self _ _ _)) ?_
        rintro r h0 ⟨rfl, B2, μ2, rfl, hs2, -⟩
        have := tl u 0
        have hiff : (∃ u, E l (Q.2.2.2 (Q.2.1 i).2.2.2.1) = some u ∧ 0 < tmQ E X l t 0 u) ↔ 0 < tmQ E X l t 0 u := by
          constructor
          · rintro ⟨u', q1, q2⟩
            rw [hu] at q1
            cases q1
            exact q2
          · exact fun q => ⟨u, hu, q⟩
        rw [b01_iff hiff]
        iterate 1 refine go_s rfl rfl rfl trivial ?_
        refine go_if (fun hc => ?_) (fun hc => ?_)
        · have : ¬ 0 < tmQ E X l t 0 u := fun q => nI_nle q (by omega) hc
          iterate 1 refine go_s rfl rfl rfl trivial ?_
          refine go_r rfl rfl rfl (Or.inl rfl) ⟨by rw [b01_f this], B2, μ2, rfl, w1.tr hs2⟩
        · have : 0 < tmQ E X l t 0 u := Nat.pos_of_ne_zero fun q => hc (by rw [q]; decide)
          iterate 2 refine go_s rfl rfl rfl trivial ?_
          refine go_r rfl rfl rfl (Or.inr rfl) ⟨by rw [b01_t this], B2, μ2, rfl, w1.tr hs2⟩
      · have hn : E l (Q.2.2.2 (Q.2.1 i).2.2.2.1) = none := Classical.not_not.mp fun q => hc (b01_f q)
        iterate 1 refine go_s rfl rfl rfl trivial ?_
        refine go_r rfl rfl rfl (Or.inl rfl) ⟨?_, B, μ, rfl, wsc.rf h1⟩
        rw [b01_f]
        rintro ⟨u, q1, -⟩
        rw [hn] at q1
        cases q1
/-- what a question's parts are like -/
def qfit (Q : tx_Q) : Prop := ∀ i, i < Q.1 → (Q.2.1 i).2.2.2.1 + (Q.2.1 i).2.2.2.2 ≤ Q.2.2.1 ∧ (Q.2.1 i).2.1 < 3 ∧ 1 ≤ (Q.2.1 i).2.2.2.2 ∧ (Q.2.1 i).1 < 1000
theorem l_ar2 {t l row : Nat} (hf : qfit Q) (ht : t < xnt X) (hl : xlg X t = some l) (hrow : row < 1000) : ∀ (d p : Nat) (B : Nat → Nat → Int32) (μ : Nat → List Nat), qS X E Q I B μ → Q.1 = p + d → (∀ j, j < p → (Q.2.1 j).1 = row → (paQ E X l t Q.2.2.2 (Q.2.1 j) ↔ (Q.2.1 j).2.2.1 = false)) →
    Go m_Mo_answersRow 2 [some (.ref 48), some (.int (nI t)), some (.int (nI row)), some (.int (nI p))] [] (hM T I B S D) (fun r h' => r = some (.int (b01 (rwQ E X l t Q row))) ∧ ∃ B' μ', h' = hM T I B' S D ∧ wsc 6032 B μ B' μ') := by
  intro d
  induction d with
  | zero =>
    intro p B μ hq hd hok
    obtain ⟨h1, h2, h3, h4, h5, h6, h7⟩ := id hq
    have ep : p = Q.1 := by omega
    subst ep
    iterate 3 refine go_s rfl rfl rfl trivial ?_
    rw [h7]
    iterate 1 refine go_s rfl rfl rfl trivial ?_
    refine go_if (fun _ => ?_) (fun hc => absurd (Int32.le_refl _) hc)
    iterate 1 refine go_s rfl rfl rfl trivial ?_
    exact go_r rfl rfl rfl (Or.inr rfl) ⟨by rw [b01_t (show rwQ E X l t Q row from hok)], B, μ, rfl, wsc.rf h1⟩
  | succ d ih =>
    intro p B μ hq hd hok
    obtain ⟨h1, h2, h3, h4, h5, h6, h7⟩ := id hq
    obtain ⟨m12, m13, m14, m15⟩ := h4.1 p (by omega)
    obtain ⟨f1, f2, f3, f4⟩ := hf p (by omega)
    have cp : (nI p).toNatClampNeg = p := nI_clamp (by omega)
    have next : ∀ (B1 : Nat → Nat → Int32) (μ1 : Nat → List Nat), wsc 6032 B μ B1 μ1 → ((Q.2.1 p).1 = row → (paQ E X l t Q.2.2.2 (Q.2.1 p) ↔ (Q.2.1 p).2.2.1 = false)) → Go m_Mo_answersRow 47 [some (.ref 48), some (.int (nI t)), some (.int (nI row)), some (.int (nI p))] [] (hM T I B1 S D) (fun r h' => r = some (.int (b01 (rwQ E X l t Q row))) ∧ ∃ B' μ', h' = hM T I B' S D ∧ wsc 6032 B μ B' μ') := by
      intro B1 μ1 hs1 hp
      iterate 2 refine go_s rfl rfl rfl trivial ?_
      rw [nI_1]
      refine (ih (p + 1) B1 μ1 (hq.keepc hs1 (by omega)) (by omega) (fun j hj => ?_)).mono fun r h' h => ?_
      · rcases Nat.lt_or_ge j p with h | h
        · exact hok j h
        · rw [show j = p by omega]; exact hp
      · obtain ⟨g1, B2, μ2, g2, g3⟩ := h
        exact ⟨g1, B2, μ2, g2, hs1.tr g3⟩
    iterate 3 refine go_s rfl rfl rfl trivial ?_
    rw [h7]
    iterate 1 refine go_s rfl rfl rfl trivial ?_
    refine go_if (fun hc => absurd hc (nI_ge (by omega) (by omega))) (fun _ => ?_)
    iterate 3 refine go_s rfl rfl rfl trivial ?_
    refine go_s rfl rfl rfl ?_ ?_
    · exact vp_in_nI (by omega) (by omega)
    simp only [cp, m12]
    iterate 2 refine go_s rfl rfl rfl trivial ?_
    refine go_if (fun hc => ?_) (fun hc => ?_)
    · exact next B μ (wsc.rf h1) (fun q => absurd (by rw [q]) hc)
    · have er : (Q.2.1 p).1 = row := nI_inj (by omega) (by omega) (Classical.not_not.mp hc)
      iterate 3 refine go_s rfl rfl rfl trivial ?_
      refine go_c rfl rfl rfl (c_answersPart hq ht hl (by omega) f1 f2 f3) ?_
      rintro r h0 ⟨rfl, B1, μ1, rfl, hs1⟩
      have m13' : B1 13 p = nI (srt (Q.2.1 p)) := by rw [hs1.1 13 (by omega)]; exact m13
      iterate 3 refine go_s rfl rfl rfl trivial ?_
      refine go_s rfl rfl rfl ?_ ?_
      · exact vp_in_nI (by omega) (by omega)
      simp only [cp, m13']
      iterate 1 refine go_s rfl rfl rfl trivial ?_
      refine go_s rfl rfl rfl ?_ ?_
      · exact fun q => absurd q (by decide)
      rw [srt_mod _ f2]
      have fin : ∀ b : Bool, Go m_Mo_answersRow 42 [some (.ref 48), some (.int (nI t)), some (.int (nI row)), some (.int (nI p))] [.int (b01 (b = false)), .int (b01 (paQ E X l t Q.2.2.2 (Q.2.1 p)))] (hM T I B1 S D) (fun r h' => r = some (.int (b01 (rwQ E X l t Q row))) ∧ ∃ B' μ', h' = hM T I B' S D ∧ wsc 6032 B μ B' μ') ∨ b ≠ (Q.2.1 p).2.2.1 := by
        intro b
        by_cases eb : b = (Q.2.1 p).2.2.1
        · left
          rw [eb]
          iterate 1 refine go_s rfl rfl rfl trivial ?_
          refine go_if (fun hc2 => ?_) (fun hc2 => ?_)
          · refine next B1 μ1 hs1 (fun _ => ?_)
            constructor
            · intro q
              rw [b01_t q] at hc2
              exact Classical.not_not.mp fun q2 => by rw [b01_f q2] at hc2; exact absurd hc2 (by decide)
            · intro q
              rw [b01_t q] at hc2
              exact Classical.not_not.mp fun q2 => by rw [b01_f q2] at hc2; exact absurd hc2 (by decide)
          · iterate 1 refine go_s rfl rfl rfl trivial ?_
            refine go_r rfl rfl rfl (Or.inl rfl) ⟨?_, B1, μ1, rfl, hs1⟩
            rw [b01_f]
            intro q
            exact hc2 (b01_iff (q p (by omega) er))
        · right; exact eb
      cases eb : (Q.2.1 p).2.2.1 with
      | true =>
        rw [if_pos rfl]
        iterate 1 refine go_s rfl rfl rfl trivial ?_
        refine go_if (fun _ => ?_) (fun hc2 => absurd (by decide) hc2)
        iterate 1 refine go_s rfl rfl rfl trivial ?_
        have := (fin true).resolve_right (fun q => q eb.symm)
        rw [b01_f (P := true = false) (by decide)] at this
        exact this
      | false =>
        rw [if_neg (by decide)]
        iterate 1 refine go_s rfl rfl rfl trivial ?_
        refine go_if (fun hc2 => absurd hc2 (by decide)) (fun _ => ?_)
        iterate 2 refine go_s rfl rfl rfl trivial ?_
        have := (fin false).resolve_right (fun q => q eb.symm)
        rw [b01_t (P := false = false) rfl] at this
        exact this
theorem c_answersRow {t l row : Nat} {B : Nat → Nat → Int32} {μ : Nat → List Nat} (hq : qS X E Q I B μ) (hf : qfit Q) (ht : t < xnt X) (hl : xlg X t = some l) (hrow : row < 1000) :
    Do m_Mo_answersRow [.ref 48, .int (nI t), .int (nI row)] (hM T I B S D) (fun r h' => r = some (.int (b01 (rwQ E X l t Q row))) ∧ ∃ B' μ', h' = hM T I B' S D ∧ wsc 6032 B μ B' μ') := by
  iterate 2 refine go_s rfl rfl rfl trivial ?_
  exact l_ar2 hf ht hl hrow Q.1 0 B μ hq (by omega) (fun j hj => absurd hj (Nat.not_lt_zero j))
theorem c_isAsked {t l : Nat} {f : Int32} {B : Nat → Nat → Int32} {μ : Nat → List Nat} (hX : mtx I B μ (xnt X) (xlg X) (xfd X) (xcn X) (xwd X)) (ht : t < xnt X) (hl : l < 3) :
    Do m_Mo_isAsked [.ref 48, .int (nI t), .int (nI l), .int f] (hM T I B S D) (fun r h' => r = some (.int (b01 (askedP X l t f))) ∧ h' = hM T I B S D) := by
  obtain ⟨x1, x2, x3⟩ := hX
  obtain ⟨k1, k2, k3, k4, k5, k6, k7⟩ := x3 t ht
  have ct : (nI t).toNatClampNeg = t := nI_clamp (by omega)
  have no : ¬ askedP X l t f → Go m_Mo_isAsked 28 [some (.ref 48), some (.int (nI t)), some (.int (nI l)), some (.int f)] [] (hM T I B S D) (fun r h' => r = some (.int (b01 (askedP X l t f))) ∧ h' = hM T I B S D) := by
    intro q
    iterate 1 refine go_s rfl rfl rfl trivial ?_
    exact go_r rfl rfl rfl (Or.inl rfl) ⟨by rw [b01_f q], rfl⟩
  have yes : askedP X l t f → Go m_Mo_isAsked 24 [some (.ref 48), some (.int (nI t)), some (.int (nI l)), some (.int f)] [] (hM T I B S D) (fun r h' => r = some (.int (b01 (askedP X l t f))) ∧ h' = hM T I B S D) := by
    intro q
    iterate 2 refine go_s rfl rfl rfl trivial ?_
    exact go_r rfl rfl rfl (Or.inr rfl) ⟨by rw [b01_t q], rfl⟩
  iterate 3 refine go_s rfl rfl rfl trivial ?_
  refine go_s rfl rfl rfl ?_ ?_
  · exact vp_in_nI (by omega) (by omega)
  simp only [ct, k1]
  iterate 2 refine go_s rfl rfl rfl trivial ?_
  refine go_if (fun hc => ?_) (fun hc => ?_)
  · exact no fun q => hc ((lgI_eq hl k2).mpr q.1)
  · have hlt : xlg X t = some l := (lgI_eq hl k2).mp (Classical.not_not.mp hc)
    iterate 2 refine go_s rfl rfl rfl trivial ?_
    refine go_if (fun hc1 => ?_) (fun hc1 => ?_)
    · exact yes ⟨hlt, Or.inl hc1⟩
    · iterate 3 refine go_s rfl rfl rfl trivial ?_
      refine go_s rfl rfl rfl ?_ ?_
      · exact vp_in_nI (by omega) (by omega)
      simp only [ct, k3]
      iterate 2 refine go_s rfl rfl rfl trivial ?_
      refine go_if (fun hc2 => ?_) (fun hc2 => ?_)
      · exact no fun q => q.2.elim (fun h => hc1 h) (fun h => hc2 h)
      · exact yes ⟨hlt, Or.inr (Classical.not_not.mp hc2)⟩
end MASK1
end
section
/-! ===== the reference: the stems that count, scores ===== -/
/-- the stem that a part counts for -/
noncomputable def trW (E : Nat → List Nat → Option (List Nat)) (l : Nat) (Q : tx_Q) (i : Nat) : Option (List Nat) := if (Q.2.1 i).2.1 = 0 ∧ (Q.2.1 i).2.2.1 = false then E l (Q.2.2.2 (Q.2.1 i).2.2.2.1) else none
noncomputable def trA (L : List (List Nat)) (o : Option (List Nat)) : List (List Nat) := match o with
  | none => L
  | some u => ifp (u ∈ L) L (L ++ [u])
noncomputable def trF (E : Nat → List Nat → Option (List Nat)) (l : Nat) (Q : tx_Q) : Nat → List (List Nat)
  | 0 => []
  | k + 1 => trA (trF E l Q k) (trW E l Q k)
theorem trA_le (L : List (List Nat)) (o : Option (List Nat)) : (trA L o).length ≤ L.length + 1 := by
  cases o with
  | none => show L.length ≤ _; omega
  | some u =>
    simp only [trA]
    by_cases q : u ∈ L
    · rw [ifp_t q]; omega
    · rw [ifp_f q, List.length_append]; exact Nat.le_refl _
theorem trF_le (E : Nat → List Nat → Option (List Nat)) (l : Nat) (Q : tx_Q) : ∀ k, (trF E l Q k).length ≤ k
  | 0 => Nat.le_refl _
  | k + 1 => Nat.le_trans (trA_le _ _) (Nat.succ_le_succ (trF_le E l Q k))
/-- words at 4064 .. 4111 and from 6032 on may have changed, the other rows haven't -/
def wsd (B : Nat → Nat → Int32) (μ : Nat → List Nat) (B' : Nat → Nat → Int32) (μ' : Nat → List Nat) : Prop := wsame B B' ∧ wm B' μ' ∧ ∀ a, a < 4064 ∨ (4112 ≤ a ∧ a < 6032) → μ' a = μ a
theorem wsd.rf {B : Nat → Nat → Int32} {μ : Nat → List Nat} (hw : wm B μ) : wsd B μ B μ := ⟨wsame.rf B, hw, fun _ _ => rfl⟩
theorem wsd.tr {B B1 B2 : Nat → Nat → Int32} {μ μ1 μ2 : Nat → List Nat} (h1 : wsd B μ B1 μ1) (h2 : wsd B1 μ1 B2 μ2) : wsd B μ B2 μ2 := ⟨h1.1.tr h2.1, h2.2.1, fun a ha => (h2.2.2 a ha).trans (h1.2.2 a ha)⟩
theorem wsd.c {B B' : Nat → Nat → Int32} {μ μ' : Nat → List Nat} (h : wsd B μ B' μ') : wsc 4064 B μ B' μ' := ⟨h.1, h.2.1, fun a ha => h.2.2 a (Or.inl ha)⟩
theorem wsc.d {k : Nat} {B B' : Nat → Nat → Int32} {μ μ' : Nat → List Nat} (h : wsc k B μ B' μ') (hk : 6032 ≤ k) : wsd B μ B' μ' := ⟨h.1, h.2.1, fun a ha => h.2.2 a (by omega)⟩
def trm (L : List (List Nat)) (μ : Nat → List Nat) : Prop := ∀ k, k < L.length → μ (4064 + k) = L.getD k []
theorem mem_getD {L : List (List Nat)} {u : List Nat} : u ∈ L ↔ ∃ k, k < L.length ∧ L.getD k [] = u := by
  constructor
  · intro h
    obtain ⟨k, hk, e⟩ := List.getElem_of_mem h
    refine ⟨k, hk, ?_⟩
    rw [List.getD_eq_getElem?_getD, List.getElem?_eq_getElem hk]
    exact e
  · rintro ⟨k, hk, e⟩
    rw [List.getD_eq_getElem?_getD, List.getElem?_eq_getElem hk] at e
    rw [← e]
    exact List.getElem_mem hk
noncomputable def mnQ (E : Nat → List Nat → Option (List Nat)) (X : tx_X) (l : Nat) (f : Int32) (v : List Nat) : Nat := cnt (fun t => askedP X l t f ∧ 0 < tmQ E X l t 0 v) (xnt X)
noncomputable def shQ (E : Nat → List Nat → Option (List Nat)) (X : tx_X) (l : Nat) (f : Int32) (v : List Nat) : Int64 := if 0 < mnQ E X l f v then 5342931457063200 / (nI (mnQ E X l f v)).toInt64 else 0
noncomputable def scF (E : Nat → List Nat → Option (List Nat)) (X : tx_X) (l : Nat) (f : Int32) (t : Nat) (L : List (List Nat)) : Nat → Int64
  | 0 => 0
  | k + 1 => scF E X l f t L k + (nI (tmQ E X l t 0 (L.getD k []))).toInt64 * shQ E X l f (L.getD k [])
section MASK2
variable {T : Nat → am_C} {D : List am_C} {I : Nat → Int32} {S : Nat → Int64} {E : Nat → List Nat → Option (List Nat)} {X : tx_X} {Q : tx_Q} {K : Option Value → List am_C → Prop}
theorem e4064 (n : Nat) : (4064 : Int32) + nI n = nI (4064 + n) := by rw [show (4064 : Int32) = nI 4064 from rfl, nI_add]
theorem l_cs60 {B : Nat → Nat → Int32} {μ : Nat → List Nat} {l p : Nat} {L : List (List Nat)} {u : List Nat} (hw : wm B μ) (hL : L.length ≤ 47) (ht : trm L μ) (hu : μ (4064 + L.length) = u) : ∀ (d k : Nat), L.length = k + d →
    (Go m_Mo_countStems 102 [some (.ref 48), some (.int (nI l)), some (.int (nI L.length)), some (.int (nI p)), some (.int (b01 (u ∈ L))), some (.int (nI L.length))] [] (hM T I B S D) K) →
    Go m_Mo_countStems 60 [some (.ref 48), some (.int (nI l)), some (.int (nI L.length)), some (.int (nI p)), some (.int (b01 (∃ j, j < k ∧ L.getD j [] = u))), some (.int (nI k))] [] (hM T I B S D) K := by
  intro d
  induction d with
  | zero =>
    intro k hk kk
    have ek : k = L.length := by omega
    subst ek
    rw [show (∃ j, j < L.length ∧ L.getD j [] = u) = (u ∈ L) from propext mem_getD.symm]
    iterate 3 refine go_s rfl rfl rfl trivial ?_
    exact go_if (fun _ => kk) (fun hc => absurd (Int32.le_refl _) hc)
  | succ d ih =>
    intro k hk kk
    have key : ∀ g : Int32, (g = b01 (∃ j, j < k + 1 ∧ L.getD j [] = u)) → Go m_Mo_countStems 94 [some (.ref 48), some (.int (nI l)), some (.int (nI L.length)), some (.int (nI p)), some (.int (b01 (∃ j, j < k ∧ L.getD j [] = u))), some (.int (nI k))] [.int g] (hM T I B S D) K := by
      rintro g rfl
      iterate 3 refine go_s rfl rfl rfl trivial ?_
      rw [nI_1]
      exact ih (k + 1) (by omega) kk
    iterate 3 refine go_s rfl rfl rfl trivial ?_
    refine go_if (fun hc => absurd hc (nI_ge (by omega) (by omega))) (fun _ => ?_)
    iterate 2 refine go_s rfl rfl rfl trivial ?_
    refine go_if (fun hc => ?_) (fun hc => ?_)
    · obtain ⟨j, j1, j2⟩ : ∃ j, j < k ∧ L.getD j [] = u := Classical.not_not.mp fun q => hc (b01_f q)
      iterate 2 refine go_s rfl rfl rfl trivial ?_
      exact key 1 (b01_t ⟨j, by omega, j2⟩).symm
    · have hno : ¬ ∃ j, j < k ∧ L.getD j [] = u := b01_eq0.mp (Classical.not_not.mp hc)
      iterate 7 refine go_s rfl rfl rfl trivial ?_
      rw [e4064, e4064]
      refine go_c rfl rfl rfl (c_same hw (a := 4064 + k) (b := 4064 + L.length) (by omega) (by omega)) ?_
      rintro r h0 ⟨rfl, rfl⟩
      rw [ht k (by omega), hu]
      iterate 1 refine go_s rfl rfl rfl trivial ?_
      refine go_if (fun hc => ?_) (fun hc => ?_)
      · have hn := b01_eq0.mp hc
        iterate 1 refine go_s rfl rfl rfl trivial ?_
        refine key 0 (b01_f ?_).symm
        rintro ⟨j, j1, j2⟩
        rcases Nat.lt_or_ge j k with h | h
        · exact hno ⟨j, h, j2⟩
        · rw [show j = k by omega] at j2
          exact hn j2
      · have hn : L.getD k [] = u := Classical.not_not.mp fun q => hc (b01_f q)
        iterate 2 refine go_s rfl rfl rfl trivial ?_
        exact key 1 (b01_t ⟨k, by omega, hn⟩).symm
theorem l_cs4 {l : Nat} (hf : qfit Q) (hl : l < 3) (h48 : Q.1 ≤ 48) : ∀ (d p : Nat) (X4 X5 : Option Value) (B : Nat → Nat → Int32) (μ : Nat → List Nat), qS X E Q I B μ → Q.1 = p + d → trm (trF E l Q p) μ →
    Go m_Mo_countStems 4 [some (.ref 48), some (.int (nI l)), some (.int (nI (trF E l Q p).length)), some (.int (nI p)), X4, X5] [] (hM T I B S D) (fun r h' => r = some (.int (nI (trF E l Q Q.1).length)) ∧ ∃ B' μ', h' = hM T I B' S D ∧ wsd B μ B' μ' ∧ trm (trF E l Q Q.1) μ') := by
  intro d
  induction d with
  | zero =>
    intro p X4 X5 B μ hq hd ht
    obtain ⟨h1, h2, h3, h4, h5, h6, h7⟩ := id hq
    have ep : p = Q.1 := by omega
    subst ep
    iterate 3 refine go_s rfl rfl rfl trivial ?_
    rw [h7]
    iterate 1 refine go_s rfl rfl rfl trivial ?_
    refine go_if (fun _ => ?_) (fun hc => absurd (Int32.le_refl _) hc)
    iterate 1 refine go_s rfl rfl rfl trivial ?_
    exact go_r rfl rfl rfl trivial ⟨rfl, B, μ, rfl, wsd.rf h1, ht⟩
  | succ d ih =>
    intro p X4 X5 B μ hq hd ht
    obtain ⟨h1, h2, h3, h4, h5, h6, h7⟩ := id hq
    obtain ⟨m12, m13, m14, m15⟩ := h4.1 p (by omega)
    obtain ⟨f1, f2, f3, f4⟩ := hf p (by omega)
    have cp : (nI p).toNatClampNeg = p := nI_clamp (by omega)
    have hle := trF_le E l Q p
    have hwq : μ (4016 + (Q.2.1 p).2.2.2.1) = Q.2.2.2 (Q.2.1 p).2.2.2.1 := h4.2 _ (by omega)
    have next : ∀ (B1 : Nat → Nat → Int32) (μ1 : Nat → List Nat) (Y4 Y5 : Option Value) (n : Int32), wsd B μ B1 μ1 → trm (trF E l Q (p + 1)) μ1 → n = nI (trF E l Q (p + 1)).length → Go m_Mo_countStems 115 [some (.ref 48), some (.int (nI l)), some (.int n), some (.int (nI p)), Y4, Y5] [] (hM T I B1 S D) (fun r h' => r = some (.int (nI (trF E l Q Q.1).length)) ∧ ∃ B' μ', h' = hM T I B' S D ∧ wsd B μ B' μ' ∧ trm (trF E l Q Q.1) μ') := by
      rintro B1 μ1 Y4 Y5 n hs1 ht1 rfl
      iterate 2 refine go_s rfl rfl rfl trivial ?_
      rw [nI_1]
      refine (ih (p + 1) Y4 Y5 B1 μ1 (hq.keepc hs1.c (by omega)) (by omega) ht1).mono fun r h' h => ?_
      obtain ⟨g1, B2, μ2, g2, g3, g4⟩ := h
      exact ⟨g1, B2, μ2, g2, hs1.tr g3, g4⟩
    have skip : trW E l Q p = none → ∀ Y4 Y5, Go m_Mo_countStems 115 [some (.ref 48), some (.int (nI l)), some (.int (nI (trF E l Q p).length)), some (.int (nI p)), Y4, Y5] [] (hM T I B S D) (fun r h' => r = some (.int (nI (trF E l Q Q.1).length)) ∧ ∃ B' μ', h' = hM T I B' S D ∧ wsd B μ B' μ' ∧ trm (trF E l Q Q.1) μ') := by
      intro hn Y4 Y5
      have e : trF E l Q (p + 1) = trF E l Q p := by rw [trF, hn, trA]
      exact next B μ Y4 Y5 _ (wsd.rf h1) (by rw [e]; exact ht) (by rw [e])
    iterate 3 refine go_s rfl rfl rfl trivial ?_
    rw [h7]
    iterate 1 refine go_s rfl rfl rfl trivial ?_
    refine go_if (fun hc => absurd hc (nI_ge (by omega) (by omega))) (fun _ => ?_)
    iterate 3 refine go_s rfl rfl rfl trivial ?_
    refine go_s rfl rfl rfl ?_ ?_
    · exact vp_in_nI (by omega) (by omega)
    simp only [cp, m13]
    iterate 1 refine go_s rfl rfl rfl trivial ?_
    refine go_if (fun hc => ?_) (fun hc => ?_)
    · refine skip ?_ _ _
      rw [trW, if_neg fun q => hc ((srt_zero _ f2).mpr q)]
    · have hz := (srt_zero _ f2).mp (Classical.not_not.mp hc)
      have eW : trW E l Q p = E l (Q.2.2.2 (Q.2.1 p).2.2.2.1) := if_pos hz
      iterate 5 refine go_s rfl rfl rfl trivial ?_
      refine go_s rfl rfl rfl ?_ ?_
      · exact vp_in_nI (by omega) (by omega)
      simp only [cp, m14]
      refine go_c rfl rfl rfl (c_isStop_E h1 h2 (a := 4016 + (Q.2.1 p).2.2.2.1) (by omega) hl) ?_
      rintro r h0 ⟨rfl, rfl⟩
      rw [hwq]
      iterate 1 refine go_s rfl rfl rfl trivial ?_
      refine go_if (fun hc1 => ?_) (fun hc1 => ?_)
      · have hn := b01_eq0.mp hc1
        obtain ⟨u, hu⟩ : ∃ u, E l (Q.2.2.2 (Q.2.1 p).2.2.2.1) = some u := by
          cases q : E l (Q.2.2.2 (Q.2.1 p).2.2.2.1) with
          | none => exact absurd q hn
          | some u => exact ⟨u, rfl⟩
        iterate 5 refine go_s rfl rfl rfl trivial ?_
        refine go_s rfl rfl rfl ?_ ?_
        · exact vp_in_nI (by omega) (by omega)
        simp only [cp, m14]
        iterate 3 refine go_s rfl rfl rfl trivial ?_
        rw [e4064]
        refine go_c rfl rfl rfl (c_stemTo_E h1 h2 hl (a := 4016 + (Q.2.1 p).2.2.2.1) (to := 4064 + (trF E l Q p).length) (by omega) (by omega) (by omega) (by omega) (by rw [hwq]; exact hu)) ?_
        rintro r h0 ⟨rfl, B1, rfl, hs1, hw1⟩
        have w1 : wsd B μ B1 (va_up μ (4064 + (trF E l Q p).length) u) := ⟨hs1, hw1, fun a ha => va_up_ne _ _ (by omega)⟩
        have ht1 : trm (trF E l Q p) (va_up μ (4064 + (trF E l Q p).length) u) := fun k hk => (va_up_ne _ _ (by omega)).trans (ht k hk)
        iterate 4 refine go_s rfl rfl rfl trivial ?_
        have h0f : b01 (∃ j, j < 0 ∧ (trF E l Q p).getD j [] = u) = 0 := b01_f (fun ⟨j, j1, _⟩ => absurd j1 (Nat.not_lt_zero j))
        have go60 := l_cs60 (T := T) (D := D) (I := I) (S := S) (K := fun r h' => r = some (.int (nI (trF E l Q Q.1).length)) ∧ ∃ B' μ', h' = hM T I B' S D ∧ wsd B μ B' μ' ∧ trm (trF E l Q Q.1) μ') (l := l) (p := p) hw1 (by omega) ht1 (va_up_self _ _ _) (trF E l Q p).length 0 (by omega)
        rw [h0f] at go60
        refine go60 ?_
        have e1 : trF E l Q (p + 1) = ifp (u ∈ trF E l Q p) (trF E l Q p) (trF E l Q p ++ [u]) := by rw [trF, eW, hu, trA]
        iterate 3 refine go_s rfl rfl rfl trivial ?_
        refine go_if (fun hc2 => ?_) (fun hc2 => ?_)
        · rw [ifp_f (b01_eq0.mp hc2)] at e1
          iterate 3 refine go_s rfl rfl rfl trivial ?_
          refine next B1 _ _ _ _ w1 ?_ ?_
          · rw [e1]
            intro k hk
            rw [List.length_append, List.length_singleton] at hk
            rcases Nat.lt_or_ge k (trF E l Q p).length with h | h
            · rw [ht1 k h, List.getD_eq_getElem?_getD, List.getD_eq_getElem?_getD, List.getElem?_append_left h]
            · have e2 : k = (trF E l Q p).length := by omega
              subst e2
              rw [va_up_self, List.getD_eq_getElem?_getD, List.getElem?_append_right (Nat.le_refl _)]
              simp
          · rw [e1, List.length_append, nI_1]
            rfl
        · rw [ifp_t (Classical.not_not.mp fun q => hc2 (b01_f q))] at e1
          iterate 4 refine go_s rfl rfl rfl trivial ?_
          refine next B1 _ _ _ _ w1 (by rw [e1]; exact ht1) ?_
          rw [e1]
          exact nI_add _ 0
      · have hn : E l (Q.2.2.2 (Q.2.1 p).2.2.2.1) = none := Classical.not_not.mp fun q => hc1 (b01_f q)
        iterate 1 refine go_s rfl rfl rfl trivial ?_
        exact skip (eW.trans hn) _ _
theorem c_countStems {B : Nat → Nat → Int32} {μ : Nat → List Nat} {l : Nat} (hq : qS X E Q I B μ) (hf : qfit Q) (hl : l < 3) (h48 : Q.1 ≤ 48) :
    Do m_Mo_countStems [.ref 48, .int (nI l)] (hM T I B S D) (fun r h' => r = some (.int (nI (trF E l Q Q.1).length)) ∧ ∃ B' μ', h' = hM T I B' S D ∧ wsd B μ B' μ' ∧ trm (trF E l Q Q.1) μ') := by
  iterate 4 refine go_s rfl rfl rfl trivial ?_
  exact l_cs4 hf hl h48 Q.1 0 _ _ B μ hq (by omega) (fun k hk => absurd hk (Nat.not_lt_zero k))
theorem l_so19 {l t k : Nat} {f : Int32} {v : List Nat} {n s5 s6 : Option Value} (hl : l < 3) (hk : k < 48) : ∀ (d j : Nat) (B : Nat → Nat → Int32) (μ : Nat → List Nat), qS X E Q I B μ → xnt X = j + d → μ (4064 + k) = v →
    (∀ B' μ', wsc 6032 B μ B' μ' → Go m_Mo_scoreOf 71 [some (.ref 48), some (.int (nI t)), some (.int (nI l)), some (.int f), n, s5, s6, some (.int (nI k)), some (.int (nI (mnQ E X l f v))), some (.int (nI (xnt X)))] [] (hM T I B' S D) K) →
    Go m_Mo_scoreOf 19 [some (.ref 48), some (.int (nI t)), some (.int (nI l)), some (.int f), n, s5, s6, some (.int (nI k)), some (.int (nI (cnt (fun t => askedP X l t f ∧ 0 < tmQ E X l t 0 v) j))), some (.int (nI j))] [] (hM T I B S D) K := by
  intro d
  induction d with
  | zero =>
    intro j B μ hq hd hv kk
    obtain ⟨h1, h2, ⟨x1, x2, x3⟩, h4, h5, h6, h7⟩ := id hq
    have ej : j = xnt X := by omega
    subst ej
    iterate 3 refine go_s rfl rfl rfl trivial ?_
    rw [x1]
    iterate 1 refine go_s rfl rfl rfl trivial ?_
    refine go_if (fun _ => ?_) (fun hc => absurd (Int32.le_refl _) hc)
    exact kk B μ (wsc.rf h1)
  | succ d ih =>
    intro j B μ hq hd hv kk
    obtain ⟨h1, h2, h3, h4, h5, h6, h7⟩ := id hq
    have x1 := h3.1
    have x2 := h3.2.1
    have next : ∀ (B1 : Nat → Nat → Int32) (μ1 : Nat → List Nat) (g : Nat), wsc 6032 B μ B1 μ1 → cnt (fun t => askedP X l t f ∧ 0 < tmQ E X l t 0 v) j + g = cnt (fun t => askedP X l t f ∧ 0 < tmQ E X l t 0 v) (j + 1) → Go m_Mo_scoreOf 62 [some (.ref 48), some (.int (nI t)), some (.int (nI l)), some (.int f), n, s5, s6, some (.int (nI k)), some (.int (nI (cnt (fun t => askedP X l t f ∧ 0 < tmQ E X l t 0 v) j))), some (.int (nI j))] [.int (nI g), .int (nI (cnt (fun t => askedP X l t f ∧ 0 < tmQ E X l t 0 v) j))] (hM T I B1 S D) K := by
      intro B1 μ1 g hs1 hg
      iterate 1 refine go_s rfl rfl rfl trivial ?_
      rw [nI_add, hg]
      iterate 3 refine go_s rfl rfl rfl trivial ?_
      rw [nI_1]
      exact ih (j + 1) B1 μ1 (hq.keepc hs1 (by omega)) (by omega) ((hs1.2.2 _ (by omega)).trans hv) (fun B' μ' hs => kk B' μ' (hs1.tr hs))
    have zero : ∀ (B1 : Nat → Nat → Int32) (μ1 : Nat → List Nat), wsc 6032 B μ B1 μ1 → ¬ (askedP X l j f ∧ 0 < tmQ E X l j 0 v) → Go m_Mo_scoreOf 61 [some (.ref 48), some (.int (nI t)), some (.int (nI l)), some (.int f), n, s5, s6, some (.int (nI k)), some (.int (nI (cnt (fun t => askedP X l t f ∧ 0 < tmQ E X l t 0 v) j))), some (.int (nI j))] [.int (nI (cnt (fun t => askedP X l t f ∧ 0 < tmQ E X l t 0 v) j))] (hM T I B1 S D) K := by
      intro B1 μ1 hs1 hno
      iterate 1 refine go_s rfl rfl rfl trivial ?_
      exact next B1 μ1 0 hs1 (by rw [cnt_f hno]; rfl)
    iterate 3 refine go_s rfl rfl rfl trivial ?_
    rw [x1]
    iterate 1 refine go_s rfl rfl rfl trivial ?_
    refine go_if (fun hc => absurd hc (nI_ge (by omega) (by omega))) (fun _ => ?_)
    iterate 5 refine go_s rfl rfl rfl trivial ?_
    refine go_c rfl rfl rfl (c_isAsked h3 (t := j) (by omega) hl) ?_
    rintro r h0 ⟨rfl, rfl⟩
    iterate 1 refine go_s rfl rfl rfl trivial ?_
    refine go_if (fun hc => ?_) (fun hc => ?_)
    · exact zero B μ (wsc.rf h1) (fun q => b01_eq0.mp hc q.1)
    · have ha : askedP X l j f := Classical.not_not.mp fun q => hc (b01_f q)
      have c48 := (hq.txt (t := j) (by omega) ha.1).2.2.2.2.1
      have tl : tmQ E X l j 0 v ≤ 48 := Nat.le_trans (cnt_le _ _) c48
      iterate 5 refine go_s rfl rfl rfl trivial ?_
      rw [e4064]
      iterate 1 refine go_s rfl rfl rfl trivial ?_
      refine go_c rfl rfl rfl (c_tms hq (t := j) (by omega) ha.1 (a := 4064 + k) (f := 0) (by omega) (by omega) (Or.inl rfl) hv) ?_
      rintro r h0 ⟨rfl, B1, μ1, rfl, hs1, -⟩
      iterate 1 refine go_s rfl rfl rfl trivial ?_
      refine go_if (fun hc1 => ?_) (fun hc1 => ?_)
      · exact zero B1 μ1 hs1 (fun q => nI_nle q.2 (by omega) hc1)
      · have : 0 < tmQ E X l j 0 v := Nat.pos_of_ne_zero fun q => hc1 (by rw [q]; decide)
        iterate 2 refine go_s rfl rfl rfl trivial ?_
        exact next B1 μ1 1 hs1 (by rw [cnt_t ⟨ha, this⟩])
theorem nI_l0 {n : Nat} (h0 : 0 < n) (h : n < 2 ^ 31) : ¬ (nI n).toInt64 = 0 := by
  rw [nI_l h, show (0 : Int64) = lN 0 from rfl, lN_eq h (by omega)]
  omega
theorem l_so6 {l t : Nat} {f : Int32} {L : List (List Nat)} (hl : l < 3) (ht : t < xnt X) (htl : xlg X t = some l) (hL : L.length ≤ 48) : ∀ (d k : Nat) (X8 X9 : Option Value) (B : Nat → Nat → Int32) (μ : Nat → List Nat), qS X E Q I B μ → L.length = k + d → trm L μ →
    Go m_Mo_scoreOf 6 [some (.ref 48), some (.int (nI t)), some (.int (nI l)), some (.int f), some (.int (nI L.length)), some (.long (scF E X l f t L k)), none, some (.int (nI k)), X8, X9] [] (hM T I B S D) (fun r h' => r = some (.long (scF E X l f t L L.length)) ∧ ∃ B' μ', h' = hM T I B' S D ∧ wsc 6032 B μ B' μ') := by
  intro d
  induction d with
  | zero =>
    intro k X8 X9 B μ hq hd hm
    have ek : k = L.length := by omega
    subst ek
    iterate 3 refine go_s rfl rfl rfl trivial ?_
    refine go_if (fun _ => ?_) (fun hc => absurd (Int32.le_refl _) hc)
    iterate 1 refine go_s rfl rfl rfl trivial ?_
    exact go_r rfl rfl rfl trivial ⟨rfl, B, μ, rfl, wsc.rf hq.1⟩
  | succ d ih =>
    intro k X8 X9 B μ hq hd hm
    have x2 := hq.2.2.1.2.1
    have hv := hm k (by omega)
    iterate 3 refine go_s rfl rfl rfl trivial ?_
    refine go_if (fun hc => absurd hc (nI_ge (by omega) (by omega))) (fun _ => ?_)
    iterate 4 refine go_s rfl rfl rfl trivial ?_
    refine l_so19 (v := L.getD k []) hl (by omega) (xnt X) 0 B μ hq (by omega) hv (fun B1 μ1 hs1 => ?_)
    have hq1 := hq.keepc hs1 (by omega)
    have hv1 : μ1 (4064 + k) = L.getD k [] := (hs1.2.2 _ (by omega)).trans hv
    have hmn : mnQ E X l f (L.getD k []) ≤ 40 := Nat.le_trans (cnt_le _ _) x2
    have c48 := (hq.txt ht htl).2.2.2.2.1
    have next : ∀ (B2 : Nat → Nat → Int32) (μ2 : Nat → List Nat) (z : Int64) (Y8 Y9 : Option Value), wsc 6032 B μ B2 μ2 → z = scF E X l f t L (k + 1) → Go m_Mo_scoreOf 102 [some (.ref 48), some (.int (nI t)), some (.int (nI l)), some (.int f), some (.int (nI L.length)), some (.long z), none, some (.int (nI k)), Y8, Y9] [] (hM T I B2 S D) (fun r h' => r = some (.long (scF E X l f t L L.length)) ∧ ∃ B' μ', h' = hM T I B' S D ∧ wsc 6032 B μ B' μ') := by
      rintro B2 μ2 z Y8 Y9 hs2 rfl
      iterate 2 refine go_s rfl rfl rfl trivial ?_
      rw [nI_1]
      refine (ih (k + 1) Y8 Y9 B2 μ2 (hq.keepc hs2 (by omega)) (by omega) (fun j hj => (hs2.2.2 _ (by omega)).trans (hm j hj))).mono fun r h' h => ?_
      obtain ⟨g1, B3, μ3, g2, g3⟩ := h
      exact ⟨g1, B3, μ3, g2, hs2.tr g3⟩
    iterate 2 refine go_s rfl rfl rfl trivial ?_
    refine go_if (fun hc => ?_) (fun hc => ?_)
    · have hz : ¬ 0 < mnQ E X l f (L.getD k []) := fun q => nI_nle q (by omega) hc
      refine next B1 μ1 _ _ _ hs1 ?_
      rw [scF, shQ, if_neg hz, Int64.mul_zero, Int64.add_zero]
    · have hz : 0 < mnQ E X l f (L.getD k []) := Nat.pos_of_ne_zero fun q => hc (by rw [q]; decide)
      iterate 6 refine go_s rfl rfl rfl trivial ?_
      rw [e4064]
      iterate 1 refine go_s rfl rfl rfl trivial ?_
      refine go_c rfl rfl rfl (c_tms hq1 ht htl (a := 4064 + k) (f := 0) (by omega) (by omega) (Or.inl rfl) hv1) ?_
      rintro r h0 ⟨rfl, B2, μ2, rfl, hs2, -⟩
      iterate 4 refine go_s rfl rfl rfl trivial ?_
      refine go_s rfl rfl rfl ?_ ?_
      · exact nI_l0 hz (by omega)
      iterate 3 refine go_s rfl rfl rfl trivial ?_
      refine next B2 μ2 _ _ _ (hs1.tr hs2) ?_
      rw [scF, shQ, if_pos hz]
theorem c_scoreOf {l t : Nat} {f : Int32} {L : List (List Nat)} {B : Nat → Nat → Int32} {μ : Nat → List Nat} (hq : qS X E Q I B μ) (hl : l < 3) (ht : t < xnt X) (htl : xlg X t = some l) (hL : L.length ≤ 48) (hm : trm L μ) :
    Do m_Mo_scoreOf [.ref 48, .int (nI t), .int (nI l), .int f, .int (nI L.length)] (hM T I B S D) (fun r h' => r = some (.long (scF E X l f t L L.length)) ∧ ∃ B' μ', h' = hM T I B' S D ∧ wsc 6032 B μ B' μ') := by
  iterate 4 refine go_s rfl rfl rfl trivial ?_
  exact l_so6 hl ht htl hL L.length 0 _ _ B μ hq (by omega) hm
end MASK2
end
section
/-! ===== what a question that was read is like ===== -/
def isLd (x : Nat) : Prop := (48 ≤ x ∧ x ≤ 57) ∨ (97 ≤ x ∧ x ≤ 122)
def wok (w : List Nat) : Prop := 0 < w.length ∧ w.length ≤ 12 ∧ ∀ x ∈ w, isLd x
theorem ltr_ld {b : Nat} (h : ltr b ≠ 0) : isLd (ltr b) := by
  simp only [ltr, isLd] at h ⊢
  split
  · omega
  · rename_i h1
    rw [if_neg h1] at h
    split
    · rename_i h2; omega
    · rename_i h2
      rw [if_neg h2] at h
      omega
theorem lq_ld {P : tx_P} {p : Nat} (h : lq P p ≠ 0) : isLd (lq P p) := by
  rw [lq] at h ⊢
  split
  · rename_i h1
    rw [if_pos h1] at h
    exact ltr_ld h
  · rename_i h1
    rw [if_neg h1] at h
    exact absurd rfl h
theorem wl_in (P : tx_P) : ∀ j p, j < wl P p → lq P (p + j) ≠ 0
  | 0, p, h => fun q => by rw [wl_no (P := P) (p := p) q] at h; omega
  | j + 1, p, h => by
    have hz : lq P p ≠ 0 := fun q => by rw [wl_no q] at h; omega
    have := wl_in P j (p + 1) (by rw [wl_yes hz] at h; omega)
    rw [show p + (j + 1) = p + 1 + j by omega]
    exact this
theorem wrd_ok {P : tx_P} {p r : Nat} (h0 : 0 < r) (h12 : r ≤ 12) (hr : r ≤ wl P p) : wok (wrd P p r) := by
  refine ⟨by rw [wrd_len]; exact h0, by rw [wrd_len]; exact h12, fun x hx => ?_⟩
  obtain ⟨j, hj, rfl⟩ := List.mem_map.mp hx
  exact lq_ld (wl_in P j p (by have := List.mem_range.mp hj; omega))
def woks (n : Nat) (wq : Nat → List Nat) : Prop := ∀ j, j < n → wok (wq j)
theorem woks.up {n : Nat} {wq : Nat → List Nat} {w : List Nat} (h : woks n wq) (hw : wok w) : woks (n + 1) (va_up wq n w) := by
  intro j hj
  by_cases e : j = n
  · subst e; rw [va_up_self]; exact hw
  · rw [va_up_ne _ _ e]; exact h j (by omega)
theorem phF_ok (P : tx_P) (b : Nat) : ∀ (f p nw : Nat) (wq : Nat → List Nat) (y : Nat × Nat × (Nat → List Nat)), phF P b f p nw wq = .inr y → woks nw wq → nw ≤ y.2.1 ∧ woks y.2.1 y.2.2
  | 0, p, nw, wq, y, h, hw => by simp [phF] at h
  | f + 1, p, nw, wq, y, h, hw => by
    rw [phF] at h
    split at h
    · injection h with h
      rw [← h]
      exact ⟨Nat.le_refl _, hw⟩
    · split at h
      · simp at h
      · split at h
        · simp at h
        · rename_i h1 h2
          have := phF_ok P b f _ _ _ y h (hw.up (wrd_ok (by omega) (by omega) (Nat.le_refl _)))
          exact ⟨by omega, this.2⟩
theorem paG_ok {P : tx_P} {p row nw : Nat} {neg : Bool} {wq : Nat → List Nat} {y : Nat × tx_q × Nat × (Nat → List Nat)} (h : paG P p row neg nw wq = .inr y) (hw : woks nw wq) : y.2.1.1 = row ∧ y.2.1.2.1 < 3 ∧ y.2.1.2.2.2.1 = nw ∧ nw + y.2.1.2.2.2.2 = y.2.2.1 ∧ 1 ≤ y.2.1.2.2.2.2 ∧ (y.2.1.2.1 ≠ 2 → y.2.1.2.2.2.2 = 1) ∧ woks y.2.2.1 y.2.2.2 := by
  rw [paG] at h
  split at h
  · split at h
    · simp at h
    · rename_i z hz
      have h1 := phF_ok P nw 97 _ _ _ _ hz hw
      have h2 := phF_inr P nw 97 _ _ _ _ hz
      injection h with h
      rw [← h]
      refine ⟨rfl, by show 2 < 3; decide, rfl, ?_, ?_, fun q => absurd rfl q, h1.2⟩
      · show nw + (z.2.1 - nw) = z.2.1
        omega
      · show 1 ≤ z.2.1 - nw
        omega
  · split at h
    · simp at h
    · split at h
      · simp at h
      · rename_i h1 h2
        have hok : wok (wrd P p (wl P p)) := wrd_ok (by omega) (by omega) (Nat.le_refl _)
        split at h
        · injection h with h
          rw [← h]
          exact ⟨rfl, by show 1 < 3; decide, rfl, rfl, Nat.le_refl _, fun _ => rfl, hw.up hok⟩
        · injection h with h
          rw [← h]
          exact ⟨rfl, by show 0 < 3; decide, rfl, rfl, Nat.le_refl _, fun _ => rfl, hw.up hok⟩
theorem paF_ok {P : tx_P} {p row nw : Nat} {wq : Nat → List Nat} {y : Nat × tx_q × Nat × (Nat → List Nat)} (h : paF P p row nw wq = .inr y) (hw : woks nw wq) : y.2.1.1 = row ∧ y.2.1.2.1 < 3 ∧ y.2.1.2.2.2.1 = nw ∧ nw + y.2.1.2.2.2.2 = y.2.2.1 ∧ 1 ≤ y.2.1.2.2.2.2 ∧ (y.2.1.2.1 ≠ 2 → y.2.1.2.2.2.2 = 1) ∧ woks y.2.2.1 y.2.2.2 := by
  rw [paF] at h
  split at h
  · exact paG_ok h hw
  · exact paG_ok h hw
def qinv (Q : tx_Q) (rows : Nat) : Prop := (∀ i, i < Q.1 → (Q.2.1 i).2.2.2.1 + (Q.2.1 i).2.2.2.2 ≤ Q.2.2.1 ∧ (Q.2.1 i).2.1 < 3 ∧ 1 ≤ (Q.2.1 i).2.2.2.2 ∧ (Q.2.1 i).1 < rows ∧ ((Q.2.1 i).2.1 ≠ 2 → (Q.2.1 i).2.2.2.2 = 1)) ∧ Q.1 ≤ Q.2.2.1 ∧ (∀ i j, i < j → j < Q.1 → (Q.2.1 i).2.2.2.1 + (Q.2.1 i).2.2.2.2 ≤ (Q.2.1 j).2.2.2.1 ∧ (Q.2.1 i).1 ≤ (Q.2.1 j).1) ∧ (∀ r, r < rows → ∃ i, i < Q.1 ∧ (Q.2.1 i).1 = r) ∧ woks Q.2.2.1 Q.2.2.2
theorem qinv.up {Q : tx_Q} {b row nw : Nat} {q : tx_q} {wq : Nat → List Nat} (h : qinv Q b) (hb : b = row ∨ b = row + 1) (e1 : q.1 = row) (e2 : q.2.1 < 3) (e3 : q.2.2.2.1 = Q.2.2.1) (e4 : Q.2.2.1 + q.2.2.2.2 = nw) (e5 : 1 ≤ q.2.2.2.2) (e6 : q.2.1 ≠ 2 → q.2.2.2.2 = 1) (e7 : woks nw wq) : qinv (Q.1 + 1, va_up Q.2.1 Q.1 q, nw, wq) (row + 1) := by
  obtain ⟨h1, h2, h3, h4, h5⟩ := h
  refine ⟨fun i hi => ?_, by show Q.1 + 1 ≤ nw; omega, fun i j hij hj => ?_, fun r hr => ?_, e7⟩
  · have hi' : i < Q.1 + 1 := hi
    show (va_up Q.2.1 Q.1 q i).2.2.2.1 + (va_up Q.2.1 Q.1 q i).2.2.2.2 ≤ nw ∧ (va_up Q.2.1 Q.1 q i).2.1 < 3 ∧ 1 ≤ (va_up Q.2.1 Q.1 q i).2.2.2.2 ∧ (va_up Q.2.1 Q.1 q i).1 < row + 1 ∧ ((va_up Q.2.1 Q.1 q i).2.1 ≠ 2 → (va_up Q.2.1 Q.1 q i).2.2.2.2 = 1)
    by_cases e : i = Q.1
    · rw [e, va_up_self]
      exact ⟨by omega, e2, e5, by omega, e6⟩
    · rw [va_up_ne _ _ e]
      obtain ⟨k1, k2, k3, k4, k5⟩ := h1 i (by omega)
      exact ⟨by omega, k2, k3, by omega, k5⟩
  · have hj' : j < Q.1 + 1 := hj
    show (va_up Q.2.1 Q.1 q i).2.2.2.1 + (va_up Q.2.1 Q.1 q i).2.2.2.2 ≤ (va_up Q.2.1 Q.1 q j).2.2.2.1 ∧ (va_up Q.2.1 Q.1 q i).1 ≤ (va_up Q.2.1 Q.1 q j).1
    rw [va_up_ne _ _ (show i ≠ Q.1 by omega)]
    by_cases e : j = Q.1
    · rw [e, va_up_self]
      obtain ⟨k1, k2, k3, k4, k5⟩ := h1 i (by omega)
      exact ⟨by omega, by omega⟩
    · rw [va_up_ne _ _ e]
      exact h3 i j hij (by omega)
  · by_cases e : r = row
    · refine ⟨Q.1, Nat.lt_succ_self _, ?_⟩
      show (va_up Q.2.1 Q.1 q Q.1).1 = r
      rw [va_up_self, e1, e]
    · obtain ⟨i, i1, i2⟩ := h4 r (by omega)
      refine ⟨i, Nat.lt_succ_of_lt i1, ?_⟩
      show (va_up Q.2.1 Q.1 q i).1 = r
      rw [va_up_ne _ _ (by omega)]
      exact i2
theorem quF_ok (P : tx_P) : ∀ (f p row : Nat) (wanted : Bool) (Q : tx_Q) (y : tx_Q × Nat), quF P f p row wanted Q = .inr y → qinv Q (if wanted = true then row else row + 1) → qinv y.1 y.2
  | 0, p, row, wanted, Q, y, h, hq => by simp [quF] at h
  | f + 1, p, row, wanted, Q, y, h, hq => by
    rw [quF] at h
    split at h
    · split at h
      · simp at h
      · rename_i h1 h2
        injection h with h
        rw [← h]
        rw [if_neg h2] at hq
        exact hq
    · split at h
      · rename_i h1 h2
        rw [if_neg (by rw [h2.1]; decide)] at hq
        exact quF_ok P f _ _ _ _ y h (by rw [if_pos rfl]; exact hq)
      · split at h
        · simp at h
        · rename_i z hz
          obtain ⟨k1, k2, k3, k4, k5, k6, k7⟩ := paF_ok hz hq.2.2.2.2
          refine quF_ok P f _ _ _ _ y h ?_
          rw [if_neg (by decide)]
          refine hq.up ?_ k1 k2 k3 k4 k5 k6 k7
          split
          · exact Or.inl rfl
          · exact Or.inr rfl
theorem quF_inv {P : tx_P} {y : tx_Q × Nat} (h : quF P 97 0 0 true q00 = .inr y) : qinv y.1 y.2 :=
  quF_ok P 97 0 0 true q00 y h ⟨fun i hi => absurd hi (Nat.not_lt_zero i), Nat.le_refl _, fun i j _ hj => absurd hj (Nat.not_lt_zero j), fun r hr => absurd hr (Nat.not_lt_zero r), fun j hj => absurd hj (Nat.not_lt_zero j)⟩
theorem qinv.fit {Q : tx_Q} {rows : Nat} (h : qinv Q rows) (hr : rows ≤ 97) : qfit Q := fun i hi => ⟨(h.1 i hi).1, (h.1 i hi).2.1, (h.1 i hi).2.2.1, by have := (h.1 i hi).2.2.2.1; omega⟩
/-! ===== where an answer comes to stand ===== -/
noncomputable def psF (P : Nat → Prop) : Nat → Nat
  | 0 => 0
  | k + 1 => ifp (P k) (psF P k) (k + 1)
theorem psF_le (P : Nat → Prop) : ∀ n, psF P n ≤ n
  | 0 => Nat.le_refl _
  | k + 1 => by
    have := psF_le P k
    rw [psF]
    by_cases q : P k
    · rw [ifp_t q]; omega
    · rw [ifp_f q]; omega
def inF {α : Type} (f : Nat → α) (p : Nat) (v : α) (i : Nat) : α := if i < p then f i else if i = p then v else f (i - 1)
theorem inF_lt {α : Type} {f : Nat → α} {p i : Nat} {v : α} (h : i < p) : inF f p v i = f i := if_pos h
theorem inF_eq {α : Type} {f : Nat → α} {p : Nat} {v : α} : inF f p v p = v := by rw [inF, if_neg (Nat.lt_irrefl _), if_pos rfl]
theorem inF_gt {α : Type} {f : Nat → α} {p i : Nat} {v : α} (h : p < i) : inF f p v i = f (i - 1) := by rw [inF, if_neg (by omega), if_neg (by omega)]
/-- f, with a gap at p; n of them -/
def gap {α : Type} (f g : Nat → α) (p n : Nat) : Prop := (∀ i, i < p → g i = f i) ∧ ∀ i, p < i → i ≤ n → g i = f (i - 1)
theorem gap.fill {α : Type} {f g g' : Nat → α} {p n : Nat} {v : α} (h : gap f g p n) (hs : g' p = v) (hn : ∀ i, i ≠ p → g' i = g i) : ∀ i, i < n + 1 → g' i = inF f p v i := by
  intro i hi
  rcases Nat.lt_trichotomy i p with q | q | q
  · rw [inF_lt q, hn i (by omega), h.1 i q]
  · rw [q, inF_eq, hs]
  · rw [inF_gt q, hn i (by omega), h.2 i q (by omega)]
theorem gap.step {α : Type} {f g g' : Nat → α} {p n : Nat} (h : gap f g (p + 1) n) (hs : g' (p + 1) = g p) (hn : ∀ i, i ≠ p + 1 → g' i = g i) : gap f g' p n := by
  refine ⟨fun i hi => by rw [hn i (by omega), h.1 i (by omega)], fun i h1 h2 => ?_⟩
  by_cases e : i = p + 1
  · rw [e, hs, h.1 p (by omega)]; rfl
  · rw [hn i e, h.2 i (by omega) h2]
noncomputable def insA (A : tx_A) (t : Nat) (s : Int64) : tx_A := (A.1 + 1, inF A.2.1 (psF (fun j => A.2.2 j < s) A.1) t, inF A.2.2 (psF (fun j => A.2.2 j < s) A.1) s)
noncomputable def akF (E : Nat → List Nat → Option (List Nat)) (X : tx_X) (Q : tx_Q) (rows l : Nat) (f : Int32) : Nat → tx_A
  | 0 => (0, fun _ => 0, fun _ => 0)
  | t + 1 => ifp (askedP X l t f ∧ ∃ r, r < rows ∧ rwQ E X l t Q r) (insA (akF E X Q rows l f t) t (scF E X l f t (trF E l Q Q.1) (trF E l Q Q.1).length)) (akF E X Q rows l f t)
theorem akF_le (E : Nat → List Nat → Option (List Nat)) (X : tx_X) (Q : tx_Q) (rows l : Nat) (f : Int32) : ∀ t, (akF E X Q rows l f t).1 ≤ t
  | 0 => Nat.le_refl _
  | t + 1 => by
    have := akF_le E X Q rows l f t
    rw [akF]
    by_cases q : askedP X l t f ∧ ∃ r, r < rows ∧ rwQ E X l t Q r
    · rw [ifp_t q]; exact Nat.succ_le_succ this
    · rw [ifp_f q]; omega
noncomputable def spAsk (Z : tx_Z) (x f : Int32) : Int32 × tx_Z := ifp (isL x ∧ -1 ≤ f ∧ f < 4) (match quF (zP Z) 97 0 0 true q00 with
  | .inl g => (-10 - nI g, z0 Z)
  | .inr y => (nI (akF (nE (zN Z)) (zX Z) y.1 y.2 x.toNatClampNeg f (xnt (zX Z))).1, (((zP Z).1, 0), zN Z, zX Z, akF (nE (zN Z)) (zX Z) y.1 y.2 x.toNatClampNeg f (xnt (zX Z)), zL Z, zS Z))) (-1, Z)
end
section
/-! ===== the reference: ask ===== -/
section MASK3
variable {T : Nat → am_C} {D : List am_C} {E : Nat → List Nat → Option (List Nat)} {K : Option Value → List am_C → Prop}
/-- the state while texts are gone through: A what was answered so far -/
def akS (Z : tx_Z) (Q : tx_Q) (l : Nat) (A : tx_A) (I : Nat → Int32) (B : Nat → Nat → Int32) (S : Nat → Int64) (μ : Nat → List Nat) : Prop := tx_m (((zP Z).1, 0), zN Z, zX Z, A, zL Z, zS Z) I B S μ ∧ qS (zX Z) (nE (zN Z)) Q I B μ ∧ trm (trF (nE (zN Z)) l Q Q.1) μ
theorem akS.keepc {Z : tx_Z} {Q : tx_Q} {l k : Nat} {A : tx_A} {I : Nat → Int32} {B B' : Nat → Nat → Int32} {S : Nat → Int64} {μ μ' : Nat → List Nat} (h : akS Z Q l A I B S μ) (h48 : Q.1 ≤ 48) (hs : wsc k B μ B' μ') (hk : 6032 ≤ k) : akS Z Q l A I B' S μ' := by
  obtain ⟨h1, h2, h3⟩ := h
  have hle := trF_le (nE (zN Z)) l Q Q.1
  exact ⟨h1.keepc hs.1 hs.2.1 (fun a ha => hs.2.2 a (by omega)), h2.keepc hs (by omega), fun j hj => (hs.2.2 _ (by omega)).trans (h3 j hj)⟩
theorem l_ak136 {I : Nat → Int32} {l0 f0 r0 n0 t0 i0 : Int32} {s : Int64} {A : tx_A} (hA : A.1 < 40) : ∀ (to : Nat) (X8 : Option Value) (B : Nat → Nat → Int32) (S : Nat → Int64), to ≤ A.1 → gap (fun i => nI (A.2.1 i)) (B 16) to A.1 → gap A.2.2 S to A.1 → psF (fun j => A.2.2 j < s) to = psF (fun j => A.2.2 j < s) A.1 →
    (∀ (B' : Nat → Nat → Int32) (S' : Nat → Int64), (∀ i, i ≠ 16 → B' i = B i) → gap (fun i => nI (A.2.1 i)) (B' 16) (psF (fun j => A.2.2 j < s) A.1) A.1 → gap A.2.2 S' (psF (fun j => A.2.2 j < s) A.1) A.1 →
      Go m_Mo_ask 194 [some (.ref 48), some (.int l0), some (.int f0), some (.int r0), some (.int n0), some (.int t0), some (.int i0), some (.long s), none, some (.int (nI (psF (fun j => A.2.2 j < s) A.1)))] [] (hM T I B' S' D) K) →
    Go m_Mo_ask 136 [some (.ref 48), some (.int l0), some (.int f0), some (.int r0), some (.int n0), some (.int t0), some (.int i0), some (.long s), none, some (.int (nI to))] [] (hM T I B S D) K := by
  intro to
  induction to with
  | zero =>
    intro X8 B S hto g1 g2 hp kk
    have e0 : psF (fun j => A.2.2 j < s) 0 = 0 := rfl
    rw [e0] at hp
    rw [← hp] at kk
    iterate 2 refine go_s rfl rfl rfl trivial ?_
    exact go_if (fun _ => kk B S (fun _ _ => rfl) g1 g2) (fun hc => absurd (by decide) hc)
  | succ n ih =>
    intro X8 B S hto g1 g2 hp kk
    have cn : (nI n).toNatClampNeg = n := nI_clamp (by omega)
    have cn1 : (nI (n + 1)).toNatClampNeg = n + 1 := nI_clamp (by omega)
    have eS : S n = A.2.2 n := g2.1 n (by omega)
    iterate 2 refine go_s rfl rfl rfl trivial ?_
    refine go_if (fun hc => absurd hc (nI_nle (by omega) (by omega))) (fun _ => ?_)
    iterate 5 refine go_s rfl rfl rfl trivial ?_
    rw [nI_pred]
    refine go_s rfl rfl rfl ?_ ?_
    · exact vp_in_nI (by omega) (by omega)
    simp only [cn]
    iterate 3 refine go_s rfl rfl rfl trivial ?_
    refine go_if (fun hc => ?_) (fun hc => ?_)
    · have hge : s ≤ A.2.2 n := by rw [← eS]; exact (lg_cmp_ge _ _).mp hc
      have hno : ¬ A.2.2 n < s := Int64.not_lt.mpr hge
      have ep : psF (fun j => A.2.2 j < s) (n + 1) = n + 1 := by rw [psF, ifp_f hno]
      rw [ep] at hp
      rw [← hp] at kk
      exact kk B S (fun _ _ => rfl) g1 g2
    · have hlt : A.2.2 n < s := by
        rw [← eS]
        exact Int64.not_le.mp fun q => hc ((lg_cmp_ge _ _).mpr q)
      have ep : psF (fun j => A.2.2 j < s) (n + 1) = psF (fun j => A.2.2 j < s) n := by rw [psF, ifp_t hlt]
      iterate 8 refine go_s rfl rfl rfl trivial ?_
      rw [nI_pred]
      refine go_s rfl rfl rfl ?_ ?_
      · exact vp_in_nI (by omega) (by omega)
      simp only [cn]
      refine go_s rfl rfl rfl ?_ ?_
      · exact vp_in_nI (by omega) (by omega)
      simp only [cn1]
      iterate 8 refine go_s rfl rfl rfl trivial ?_
      rw [nI_pred]
      refine go_s rfl rfl rfl ?_ ?_
      · exact vp_in_nI (by omega) (by omega)
      simp only [cn]
      refine go_s rfl rfl rfl ?_ ?_
      · exact vp_in_nI (by omega) (by omega)
      simp only [cn1]
      iterate 2 refine go_s rfl rfl rfl trivial ?_
      rw [pk_m1]
      refine ih X8 (va_up B 16 (upd (B 16) (n + 1) (B 16 n))) (vp_updL S (n + 1) (S n)) (by omega) ?_ ?_ (by rw [← ep]; exact hp) (fun B' S' hB hg1 hg2 => ?_)
      · refine g1.step ?_ (fun i hi => ?_)
        · rw [va_up_self, pk_us]
        · rw [va_up_self, pk_un hi]
      · exact g2.step pk_uLs (fun i hi => pk_uLn hi)
      · exact kk B' S' (fun i hi => (hB i hi).trans (va_up_ne _ _ hi)) hg1 hg2
theorem l_ak83z {H : List am_C} {l0 f0 r0 n0 t0 k : Int32} {X8 X9 : Option Value} (kk : Go m_Mo_ask 110 [some (.ref 48), some (.int l0), some (.int f0), some (.int r0), some (.int n0), some (.int t0), some (.int 1), some (.int k), X8, X9] [] H K) :
    Go m_Mo_ask 83 [some (.ref 48), some (.int l0), some (.int f0), some (.int r0), some (.int n0), some (.int t0), some (.int 1), some (.int k), X8, X9] [] H K := by
  iterate 3 refine go_s rfl rfl rfl trivial ?_
  refine go_if (fun _ => kk) (fun _ => ?_)
  iterate 2 refine go_s rfl rfl rfl trivial ?_
  exact go_if (fun _ => kk) (fun hc => absurd (by decide) hc)
theorem l_ak83 {Z : tx_Z} {Q : tx_Q} {l t rows : Nat} {A : tx_A} {I : Nat → Int32} {S : Nat → Int64} {l0 f0 n0 : Int32} (hf : qfit Q) (h48 : Q.1 ≤ 48) (ht : t < xnt (zX Z)) (hl : xlg (zX Z) t = some l) (hr : rows < 1000) : ∀ (d k : Nat) (X8 X9 : Option Value) (B : Nat → Nat → Int32) (μ : Nat → List Nat), akS Z Q l A I B S μ → rows = k + d → (¬ ∃ r, r < k ∧ rwQ (nE (zN Z)) (zX Z) l t Q r) →
    (∀ (g k' : Int32) (B' : Nat → Nat → Int32) (μ' : Nat → List Nat), akS Z Q l A I B' S μ' → ((g = 1 ∧ ∃ r, r < rows ∧ rwQ (nE (zN Z)) (zX Z) l t Q r) ∨ (g = 0 ∧ ¬ ∃ r, r < rows ∧ rwQ (nE (zN Z)) (zX Z) l t Q r)) → Go m_Mo_ask 110 [some (.ref 48), some (.int l0), some (.int f0), some (.int (nI rows)), some (.int n0), some (.int (nI t)), some (.int g), some (.int k'), X8, X9] [] (hM T I B' S D) K) →
    Go m_Mo_ask 83 [some (.ref 48), some (.int l0), some (.int f0), some (.int (nI rows)), some (.int n0), some (.int (nI t)), some (.int 0), some (.int (nI k)), X8, X9] [] (hM T I B S D) K := by
  intro d
  induction d with
  | zero =>
    intro k X8 X9 B μ hs hk hno kk
    have ek : k = rows := by omega
    subst ek
    iterate 3 refine go_s rfl rfl rfl trivial ?_
    exact go_if (fun _ => kk 0 _ B μ hs (Or.inr ⟨rfl, hno⟩)) (fun hc => absurd (Int32.le_refl _) hc)
  | succ d ih =>
    intro k X8 X9 B μ hs hk hno kk
    iterate 3 refine go_s rfl rfl rfl trivial ?_
    refine go_if (fun hc => absurd hc (nI_ge (by omega) (by omega))) (fun _ => ?_)
    iterate 2 refine go_s rfl rfl rfl trivial ?_
    refine go_if (fun hc => absurd rfl hc) (fun _ => ?_)
    iterate 3 refine go_s rfl rfl rfl trivial ?_
    refine go_c rfl rfl rfl (c_answersRow hs.2.1 hf ht hl (row := k) (by omega)) ?_
    rintro r h0 ⟨rfl, B1, μ1, rfl, hs1⟩
    have hs2 := hs.keepc h48 hs1 (Nat.le_refl _)
    iterate 3 refine go_s rfl rfl rfl trivial ?_
    rw [nI_1]
    by_cases q : rwQ (nE (zN Z)) (zX Z) l t Q k
    · rw [b01_t q]
      exact l_ak83z (kk 1 _ B1 μ1 hs2 (Or.inl ⟨rfl, k, by omega, q⟩))
    · rw [b01_f q]
      refine ih (k + 1) X8 X9 B1 μ1 hs2 (by omega) (fun ⟨r, r1, r2⟩ => ?_) kk
      rcases Nat.lt_or_ge r k with h | h
      · exact hno ⟨r, h, r2⟩
      · rw [show r = k by omega] at r2
        exact q r2
theorem l_ak54 {Z : tx_Z} {Q : tx_Q} {l rows : Nat} {f : Int32} (hf : qfit Q) (h48 : Q.1 ≤ 48) (hl3 : l < 3) (hr : rows < 1000) : ∀ (d t : Nat) (X6 X7 X8 X9 : Option Value) (I : Nat → Int32) (B : Nat → Nat → Int32) (S : Nat → Int64) (μ : Nat → List Nat), akS Z Q l (akF (nE (zN Z)) (zX Z) Q rows l f t) I B S μ → xnt (zX Z) = t + d →
    Go m_Mo_ask 54 [some (.ref 48), some (.int (nI l)), some (.int f), some (.int (nI rows)), some (.int (nI (trF (nE (zN Z)) l Q Q.1).length)), some (.int (nI t)), X6, X7, X8, X9] [] (hM T I B S D) (fun r h' => r = some (.int (nI (akF (nE (zN Z)) (zX Z) Q rows l f (xnt (zX Z))).1)) ∧ ∃ I' B' S' μ', h' = hM T I' B' S' D ∧ tx_m (((zP Z).1, 0), zN Z, zX Z, akF (nE (zN Z)) (zX Z) Q rows l f (xnt (zX Z)), zL Z, zS Z) I' B' S' μ') := by
  intro d
  induction d with
  | zero =>
    intro t X6 X7 X8 X9 I B S μ hs hd
    have x1 : I 1 = nI (xnt (zX Z)) := hs.2.1.2.2.1.1
    have e9 : I 9 = nI (akF (nE (zN Z)) (zX Z) Q rows l f t).1 := hs.1.2.2.2.2.1.1
    have et : t = xnt (zX Z) := by omega
    subst et
    iterate 3 refine go_s rfl rfl rfl trivial ?_
    rw [x1]
    iterate 1 refine go_s rfl rfl rfl trivial ?_
    refine go_if (fun _ => ?_) (fun hc => absurd (Int32.le_refl _) hc)
    iterate 2 refine go_s rfl rfl rfl trivial ?_
    exact go_r rfl rfl rfl trivial ⟨by rw [← e9], I, B, S, μ, rfl, hs.1⟩
  | succ d ih =>
    intro t X6 X7 X8 X9 I B S μ hs hd
    have x1 : I 1 = nI (xnt (zX Z)) := hs.2.1.2.2.1.1
    have x2 : xnt (zX Z) ≤ 40 := hs.2.1.2.2.1.2.1
    have htl := trF_le (nE (zN Z)) l Q Q.1
    have next : ∀ (Y6 Y7 Y8 Y9 : Option Value) (I' : Nat → Int32) (B' : Nat → Nat → Int32) (S' : Nat → Int64) (μ' : Nat → List Nat), akS Z Q l (akF (nE (zN Z)) (zX Z) Q rows l f (t + 1)) I' B' S' μ' → Go m_Mo_ask 222 [some (.ref 48), some (.int (nI l)), some (.int f), some (.int (nI rows)), some (.int (nI (trF (nE (zN Z)) l Q Q.1).length)), some (.int (nI t)), Y6, Y7, Y8, Y9] [] (hM T I' B' S' D) (fun r h' => r = some (.int (nI (akF (nE (zN Z)) (zX Z) Q rows l f (xnt (zX Z))).1)) ∧ ∃ I' B' S' μ', h' = hM T I' B' S' D ∧ tx_m (((zP Z).1, 0), zN Z, zX Z, akF (nE (zN Z)) (zX Z) Q rows l f (xnt (zX Z)), zL Z, zS Z) I' B' S' μ') := by
      intro Y6 Y7 Y8 Y9 I' B' S' μ' hs'
      iterate 2 refine go_s rfl rfl rfl trivial ?_
      rw [nI_1]
      exact ih (t + 1) Y6 Y7 Y8 Y9 I' B' S' μ' hs' (by omega)
    have skip : ¬ (askedP (zX Z) l t f ∧ ∃ r, r < rows ∧ rwQ (nE (zN Z)) (zX Z) l t Q r) → akF (nE (zN Z)) (zX Z) Q rows l f (t + 1) = akF (nE (zN Z)) (zX Z) Q rows l f t := fun q => by rw [akF, ifp_f q]
    iterate 3 refine go_s rfl rfl rfl trivial ?_
    rw [x1]
    iterate 1 refine go_s rfl rfl rfl trivial ?_
    refine go_if (fun hc => absurd hc (nI_ge (by omega) (by omega))) (fun _ => ?_)
    iterate 4 refine go_s rfl rfl rfl trivial ?_
    refine go_c rfl rfl rfl (c_isAsked hs.2.1.2.2.1 (t := t) (by omega) hl3) ?_
    rintro r h0 ⟨rfl, rfl⟩
    iterate 1 refine go_s rfl rfl rfl trivial ?_
    refine go_if (fun hc => ?_) (fun hc => ?_)
    · have ha : askedP (zX Z) l t f := Classical.not_not.mp fun q => hc (b01_f q)
      iterate 4 refine go_s rfl rfl rfl trivial ?_
      refine l_ak83 hf h48 (by omega) ha.1 hr rows 0 X8 X9 B μ hs (by omega) (fun ⟨r, r1, _⟩ => absurd r1 (Nat.not_lt_zero r)) (fun g k' B1 μ1 hs1 hg => ?_)
      iterate 2 refine go_s rfl rfl rfl trivial ?_
      rcases hg with ⟨rfl, hg⟩ | ⟨rfl, hg⟩
      · refine go_if (fun _ => ?_) (fun hc => absurd (by decide) hc)
        have eA : akF (nE (zN Z)) (zX Z) Q rows l f (t + 1) = insA (akF (nE (zN Z)) (zX Z) Q rows l f t) t (scF (nE (zN Z)) (zX Z) l f t (trF (nE (zN Z)) l Q Q.1) (trF (nE (zN Z)) l Q Q.1).length) := by rw [akF, ifp_t ⟨ha, hg⟩]
        have hA40 := akF_le (nE (zN Z)) (zX Z) Q rows l f t
        generalize hAeq : akF (nE (zN Z)) (zX Z) Q rows l f t = A at *
        iterate 5 refine go_s rfl rfl rfl trivial ?_
        refine go_c rfl rfl rfl (c_scoreOf hs1.2.1 hl3 (by omega) ha.1 (L := trF (nE (zN Z)) l Q Q.1) (by omega) hs1.2.2) ?_
        rintro r h0 ⟨rfl, B2, μ2, rfl, hs2⟩
        have hs3 := hs1.keepc h48 hs2 (Nat.le_refl _)
        have e9 : I 9 = nI A.1 := hs3.1.2.2.2.2.1.1
        obtain ⟨z1, z2, z3⟩ := id hs3.1.2.2.2.2.1
        generalize scF (nE (zN Z)) (zX Z) l f t (trF (nE (zN Z)) l Q Q.1) (trF (nE (zN Z)) l Q Q.1).length = s at *
        iterate 3 refine go_s rfl rfl rfl trivial ?_
        rw [e9]
        iterate 1 refine go_s rfl rfl rfl trivial ?_
        have z3' : ∀ i, i < A.1 → B2 16 i = nI (A.2.1 i) ∧ S i = A.2.2 i := z3
        refine l_ak136 (A := A) (s := s) (by omega) A.1 none B2 S (Nat.le_refl _) ⟨fun i hi => (z3' i hi).1, fun i h1 h2 => absurd h1 (by omega)⟩ ⟨fun i hi => (z3' i hi).2, fun i h1 h2 => absurd h1 (by omega)⟩ rfl (fun B3 S3 hB3 g1 g2 => ?_)
        have hp := psF_le (fun j => A.2.2 j < s) A.1
        generalize hpe : psF (fun j => A.2.2 j < s) A.1 = p at *
        have cp : (nI p).toNatClampNeg = p := nI_clamp (by omega)
        iterate 4 refine go_s rfl rfl rfl trivial ?_
        refine go_s rfl rfl rfl ?_ ?_
        · exact vp_in_nI (by omega) (by omega)
        simp only [cp]
        iterate 4 refine go_s rfl rfl rfl trivial ?_
        refine go_s rfl rfl rfl ?_ ?_
        · exact vp_in_nI (by omega) (by omega)
        simp only [cp]
        iterate 3 refine go_s rfl rfl rfl trivial ?_
        rw [e9]
        iterate 2 refine go_s rfl rfl rfl trivial ?_
        rw [nI_1]
        iterate 1 refine go_s rfl rfl rfl trivial ?_
        obtain ⟨h1, h2, h3, h4, h5, h6, h7⟩ := id hs3.1
        have k16 : ∀ i, i ≠ 16 → va_up B3 16 (upd (B3 16) p (nI t)) i = B2 i := fun i hi => (va_up_ne _ _ hi).trans (hB3 i hi)
        refine next _ _ _ _ (va_up I 9 (nI (A.1 + 1))) (va_up B3 16 (upd (B3 16) p (nI t))) (vp_updL S3 p s) μ2 ⟨⟨h1.keep2 (k16 0 (by decide)) (k16 1 (by decide)), h2.keep rfl (k16 2 (by decide)), h3.keep rfl (k16 8 (by decide)) (k16 9 (by decide)) (fun _ _ _ => rfl), h4.keep rfl rfl (fun i a b => k16 i (by omega)) (fun _ _ => rfl), ?_, h6.keep rfl (fun _ _ _ => rfl), h7.keep rfl (k16 18 (by decide))⟩, ?_, hs3.2.2⟩
        · rw [eA]
          refine ⟨va_up_self _ _ _, by show A.1 + 1 ≤ 40; omega, fun i hi => ⟨?_, ?_⟩⟩
          · have := g1.fill (g' := va_up B3 16 (upd (B3 16) p (nI t)) 16) (v := nI t) (by rw [va_up_self, pk_us]) (fun i hi => by rw [va_up_self, pk_un hi]) i hi
            rw [this]
            show inF (fun i => nI (A.2.1 i)) p (nI t) i = nI (inF A.2.1 (psF (fun j => A.2.2 j < s) A.1) t i)
            rw [hpe]
            simp only [inF]
            split
            · rfl
            · split <;> rfl
          · have := g2.fill (g' := vp_updL S3 p s) (v := s) pk_uLs (fun i hi => pk_uLn hi) i hi
            rw [this]
            show inF A.2.2 p s i = inF A.2.2 (psF (fun j => A.2.2 j < s) A.1) s i
            rw [hpe]
        · obtain ⟨y1, y2, y3, ⟨y4, y4b⟩, y5, y6, y7⟩ := hs3.2.1
          refine ⟨y1.keep2 (k16 0 (by decide)) (k16 1 (by decide)), y2.keep rfl (k16 8 (by decide)) (k16 9 (by decide)) (fun _ _ _ => rfl), ?_, ⟨fun i hi => ?_, y4b⟩, y5, y6, y7⟩
          · obtain ⟨u1, u2, u3⟩ := y3
            refine ⟨u1, u2, fun t ht => ?_⟩
            rw [k16 3 (by decide), k16 4 (by decide), k16 5 (by decide)]
            exact u3 t ht
          · rw [k16 12 (by decide), k16 13 (by decide), k16 14 (by decide), k16 15 (by decide)]
            exact y4 i hi
      · refine go_if (fun hc => absurd rfl hc) (fun _ => ?_)
        iterate 1 refine go_s rfl rfl rfl trivial ?_
        exact next _ _ _ _ I B1 S μ1 (by rw [skip (fun q => hg q.2)]; exact hs1)
    · have ha : ¬ askedP (zX Z) l t f := b01_eq0.mp (Classical.not_not.mp hc)
      iterate 1 refine go_s rfl rfl rfl trivial ?_
      exact next _ _ _ _ I B S μ (by rw [skip (fun q => ha q.1)]; exact hs)
theorem c_ask {Z : tx_Z} {I : Nat → Int32} {B : Nat → Nat → Int32} {S : Nat → Int64} {μ : Nat → List Nat} (hZ : tx_m Z I B S μ) (x f : Int32) : Do m_Mo_ask [.ref 48, .int x, .int f] (hM T I B S D) (fun r h' => r = some (.int (spAsk Z x f).1) ∧ ∃ I' B' S' μ', h' = hM T I' B' S' D ∧ tx_m (spAsk Z x f).2 I' B' S' μ') := by
  have bad : ¬ (isL x ∧ -1 ≤ f ∧ f < 4) → Go m_Mo_ask 17 [some (.ref 48), some (.int x), some (.int f), none, none, none, none, none, none, none] [] (hM T I B S D) (fun r h' => r = some (.int (spAsk Z x f).1) ∧ ∃ I' B' S' μ', h' = hM T I' B' S' D ∧ tx_m (spAsk Z x f).2 I' B' S' μ') := by
    intro q
    rw [spAsk, ifp_f q]
    iterate 1 refine go_s rfl rfl rfl trivial ?_
    exact go_r rfl rfl rfl trivial ⟨rfl, I, B, S, μ, rfl, hZ⟩
  obtain ⟨h1, h2, h3, h4, h5, h6, h7⟩ := id hZ
  iterate 1 refine go_s rfl rfl rfl trivial ?_
  refine go_c rfl rfl rfl (c_isLanguage _ x) ?_
  rintro r h0 ⟨rfl, rfl⟩
  iterate 1 refine go_s rfl rfl rfl trivial ?_
  refine go_if (fun hc => bad fun q => b01_eq0.mp hc q.1) (fun hc => ?_)
  have hq : isL x := Classical.not_not.mp fun q => hc (b01_f q)
  iterate 3 refine go_s rfl rfl rfl trivial ?_
  refine go_if (fun hc1 => bad fun q => Int32.not_lt.mpr q.2.1 hc1) (fun hc1 => ?_)
  iterate 3 refine go_s rfl rfl rfl trivial ?_
  refine go_if (fun hc2 => ?_) (fun hc2 => bad fun q => hc2 q.2.2)
  obtain ⟨l, hl, rfl⟩ := isL_nat hq
  have cl : (nI l).toNatClampNeg = l := nI_clamp (by omega)
  rw [spAsk, ifp_t ⟨hq, Int32.not_lt.mp hc1, hc2⟩, cl]
  iterate 1 refine go_s rfl rfl rfl trivial ?_
  refine go_c rfl rfl rfl (c_readQuestion h2 h1) ?_
  rintro r h0 ⟨I1, B1, μ1, rfl, ⟨I2, rfl, hfr⟩, hz⟩
  obtain ⟨fr1, fr2, fr3, fr4⟩ := hfr
  have kI : ∀ i, i ≠ 0 → i ≠ 5 → i ≠ 6 → i ≠ 7 → i ≠ 8 → va_up I2 0 0 i = I i := fun i a b c d e => (va_up_ne _ _ a).trans (fr1 i b c d e)
  have hZ0 : tx_m (z0 Z) (va_up I2 0 0) B1 S μ1 := ⟨fr3, ⟨rfl, by show 0 ≤ 96; omega, fun j hj => absurd hj (Nat.not_lt_zero j)⟩, h3.keep (kI 3 (by decide) (by decide) (by decide) (by decide) (by decide)) (fr2 8 (by decide) (by decide)) (fr2 9 (by decide) (by decide)) (fun a _ b => fr4 a (by omega)), h4.keep (kI 1 (by decide) (by decide) (by decide) (by decide) (by decide)) (kI 2 (by decide) (by decide) (by decide) (by decide) (by decide)) (fun i a b => fr2 i (by omega) (by omega)) (fun a b => fr4 a (by omega)), h5.keep (kI 9 (by decide) (by decide) (by decide) (by decide) (by decide)) (fr2 16 (by decide) (by decide)), h6.keep (kI 10 (by decide) (by decide) (by decide) (by decide) (by decide)) (fun a b c => fr4 a (by omega)), h7.keep (kI 11 (by decide) (by decide) (by decide) (by decide) (by decide)) (fr2 18 (by decide) (by decide))⟩
  cases hqu : quF (zP Z) 97 0 0 true q00 with
  | inl g =>
    rw [hqu] at hz
    obtain ⟨k8, kg, v, rfl⟩ := hz
    iterate 3 refine go_s rfl rfl rfl trivial ?_
    rw [k8]
    iterate 1 refine go_s rfl rfl rfl trivial ?_
    refine go_if (fun hc3 => absurd hc3 (nI_pos (by omega))) (fun _ => ?_)
    iterate 3 refine go_s rfl rfl rfl trivial ?_
    rw [k8]
    iterate 1 refine go_s rfl rfl rfl trivial ?_
    exact go_r rfl rfl rfl trivial ⟨rfl, va_up I2 0 0, B1, S, μ1, rfl, hZ0⟩
  | inr y =>
    rw [hqu] at hz
    obtain ⟨k8, rfl, k5, k96, k97, k48, kq⟩ := hz
    have hinv := quF_inv hqu
    have hfit := hinv.fit k97
    have h48 : y.1.1 ≤ 48 := Nat.le_trans hinv.2.1 k48
    iterate 3 refine go_s rfl rfl rfl trivial ?_
    rw [k8]
    iterate 1 refine go_s rfl rfl rfl trivial ?_
    refine go_if (fun _ => ?_) (fun hc3 => absurd (by decide) hc3)
    obtain ⟨n1, n2, n3, n4, n5, n6, n7⟩ := id hZ0
    have hqs : qS (zX Z) (nE (zN Z)) y.1 (va_up (va_up I2 0 0) 9 0) B1 μ1 := ⟨fr3, n3.env.keep rfl rfl rfl (fun _ _ _ => rfl), ⟨n4.1.1, n4.1.2⟩, kq, k96, k48, k5⟩
    iterate 5 refine go_s rfl rfl rfl trivial ?_
    change Go m_Mo_ask 46 _ _ (hM T (va_up (va_up I2 0 0) 9 0) B1 S D) _
    refine go_c rfl rfl rfl (c_countStems hqs hfit hl h48) ?_
    rintro r h0 ⟨rfl, B3, μ3, rfl, hs3, ht3⟩
    iterate 3 refine go_s rfl rfl rfl trivial ?_
    refine l_ak54 (f := f) hfit h48 hl (by omega) (xnt (zX Z)) 0 none none none none (va_up (va_up I2 0 0) 9 0) B3 S μ3 ⟨⟨hs3.2.1, n2.keep rfl (hs3.1 2 (by decide)), n3.keep rfl (hs3.1 8 (by decide)) (hs3.1 9 (by decide)) (fun a _ b => hs3.2.2 a (by omega)), n4.keep rfl rfl (fun i a b => hs3.1 i (by omega)) (fun a b => hs3.2.2 a (by omega)), ⟨rfl, by show 0 ≤ 40; omega, fun i hi => absurd hi (Nat.not_lt_zero i)⟩, n6.keep rfl (fun a b c => hs3.2.2 a (by omega)), n7.keep rfl (hs3.1 18 (by decide))⟩, hqs.keepc hs3.c (by omega), ht3⟩ (by omega)
end MASK3
end
