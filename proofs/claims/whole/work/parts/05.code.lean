/-! ===== each entry of the code is the machine's instruction, and its links are the tables' ===== -/
def am_lni (i : Jvm.ClassFile.Instr) : Nat := match i with
  | .aload _ => 2
  | .iload _ => 2
  | .lload _ => 2
  | .astore _ => 2
  | .istore _ => 2
  | .lstore _ => 2
  | .bipush _ => 2
  | .ldc _ => 2
  | .newarray _ => 2
  | .sipush _ => 3
  | .ldc2_w _ => 3
  | .getstatic _ => 3
  | .iinc _ _ => 3
  | .goto _ => 3
  | .if_icmp _ _ => 3
  | .ifCond _ _ => 3
  | .if_acmp _ _ => 3
  | .ifnull _ => 3
  | .ifnonnull _ => 3
  | .anewarray _ => 3
  | .new _ => 3
  | .getfield _ => 3
  | .putfield _ => 3
  | .checkcast _ => 3
  | .invokevirtual _ => 3
  | .invokespecial _ => 3
  | .invokestatic _ => 3
  | _ => 1
def am_fin (ci b : Nat) : Bool := match am_cl[ci]? with
  | some r => (r.2.1 b).2.2.2
  | none => true
def am_dcl (ci b : Nat) : String := match am_cl[ci]? with
  | some r => (r.2.1 b).1
  | none => ""
def am_isref (t : Option FieldType) : Bool := match t with
  | some (.object _) => true
  | some (.array _) => true
  | _ => false
def am_tag (t : Jvm.ClassFile.ArrayType) : Nat := match t with
  | .int => 0
  | .byte => 1
  | .boolean => 2
  | .long => 3
  | _ => 99
def am_call_ok (m a c : Nat) : Bool := decide (am_nc a = c) && decide (am_D a + 1 ≤ am_D m) && decide (8 + (am_ml a + 11) + am_Lo a ≤ am_Lo m)
def am_prim_ok (m : Nat) : Bool := decide (1 ≤ am_D m) && decide (20 ≤ am_Lo m)
def am_okb1 (m pc : Nat) (i : Jvm.ClassFile.Instr) (a b c : Nat) (k : Int32) (l : Int64) : Bool := match i with
  | .aload n => decide (n = a)
  | .iload n => decide (n = a)
  | .lload n => decide (n = a)
  | .aload_n n => decide (n.val = a)
  | .iload_n n => decide (n.val = a)
  | .lload_n n => decide (n.val = a)
  | .astore n => decide (n = a) && decide (a < am_ml m)
  | .istore n => decide (n = a) && decide (a < am_ml m)
  | .lstore n => decide (n = a) && decide (a + 1 < am_ml m)
  | .astore_n n => decide (n.val = a) && decide (a < am_ml m)
  | .istore_n n => decide (n.val = a) && decide (a < am_ml m)
  | .lstore_n n => decide (n.val = a) && decide (a + 1 < am_ml m)
  | .iinc n d => decide (n = a) && decide (Int32.ofInt d = k) && decide (a < am_ml m)
  | .iconst n => decide (Int32.ofInt n = k)
  | .bipush n => decide ((Int8.ofInt n).toInt32 = k)
  | .sipush n => decide ((Int16.ofInt n).toInt32 = k)
  | .lconst n => decide (Int64.ofNat n.val = l)
  | .ldc2_w x => decide ((am_ow m, x, l) ∈ am_KL)
  | .ldc x => (match b with
    | 0 => decide ((am_ow m, x, k) ∈ am_KI)
    | _ => decide (a = 4) && decide ((am_ow m, x) ∈ am_MI))
  | .getstatic x => decide ((am_ow m, x, a) ∈ am_SL)
  | .goto d => decide ((pc : Int) + d = (a : Int))
  | .ifnull d => decide ((pc : Int) + d = (a : Int))
  | .ifnonnull d => decide ((pc : Int) + d = (a : Int))
  | .if_icmp _ d => decide ((pc : Int) + d = (a : Int))
  | .ifCond _ d => decide ((pc : Int) + d = (a : Int))
  | .if_acmp _ d => decide ((pc : Int) + d = (a : Int))
  | .newarray t => decide (am_tag t = a) && decide (a < 4)
  | .anewarray x => decide ((am_ow m, x, a) ∈ am_QL)
  | .new x => decide ((am_ow m, x, a) ∈ am_NL)
  | .checkcast x => decide (a = 99) || decide ((am_ow m, x, a) ∈ am_NL)
  | .getfield x => decide ((am_ow m, x, a, b) ∈ am_FL)
  | .putfield x => decide ((am_ow m, x, a, b) ∈ am_FL) && (!(am_fin a b) || (decide ((am_y m).name = "<init>") && decide (am_dcl a b = am_on (am_ow m))))
  | .invokevirtual x => (match b with
    | 0 => decide ((am_ow m, x, 0, a) ∈ am_ML) && am_call_ok m a c
    | 5 => decide ((am_ow m, x) ∈ am_GC) && decide (1 ≤ am_D m) && decide (22 ≤ am_Lo m)
    | _ => true)
  | .invokespecial x => (match b with
    | 1 => decide ((am_ow m, x, 1, a) ∈ am_ML) && am_call_ok m a c
    | 2 => decide ((am_ow m, x, 2, a) ∈ am_ML) && am_call_ok m a c
    | 4 => decide ((am_ow m, x) ∈ am_OI) && am_prim_ok m
    | _ => true)
  | .invokestatic x => (match b with
    | 3 => decide ((am_ow m, x, 3, a) ∈ am_ML) && am_call_ok m a c
    | 6 => decide ((am_ow m, x) ∈ am_CP) && decide (1 ≤ am_D m) && decide (26 ≤ am_Lo m)
    | 7 => decide ((am_ow m, x) ∈ am_MX) && decide (1 ≤ am_D m) && decide (21 ≤ am_Lo m)
    | 8 => decide ((am_ow m, x) ∈ am_MN) && decide (1 ≤ am_D m) && decide (21 ≤ am_Lo m)
    | _ => true)
  | .ireturn => (match a with
    | 0 => decide (am_rt m = some .int)
    | _ => decide (am_rt m = some .boolean))
  | .lreturn => decide (am_rt m = some .long)
  | .areturn => am_isref (am_rt m)
  | .return_ => decide (am_rt m = none)
  | _ => true
def am_okb (m pc : Nat) (e : am_e) : Bool := match e with
  | (i, nx, a, b, c, k, l) => (match i with
    | .nop => true
    | .tableswitch d lo hi offs => decide (decode (am_bc m) pc = .ok (.tableswitch d lo hi offs, nx - pc)) && decide ((pc : Int) + d = (a : Int)) && decide (b = pc) && (List.range (hi - lo + 1).toNat).all (fun j => match offs[j]? with
      | some off => decide (0 ≤ (pc : Int) + off)
      | none => false)
    | i => decide (decode (am_bc m) pc = .ok (i, am_lni i)) && decide (nx = pc + am_lni i) && am_okb1 m pc i a b c k l)
def am_oks (m : Nat) : Nat → List am_e → Bool
  | _, [] => true
  | pc, e :: es => am_okb m pc e && am_oks m (pc + 1) es
theorem am_oks_at {m : Nat} : ∀ (es : List am_e) (pc : Nat), am_oks m pc es = true → ∀ (j : Nat) (e : am_e), am_get es j = some e → am_okb m (pc + j) e = true
  | [], pc, h, j, e, he => by simp [am_get] at he
  | x :: es, pc, h, 0, e, he => by
    simp only [am_get, Option.some.injEq] at he
    subst he
    simp only [am_oks, Bool.and_eq_true] at h
    exact h.1
  | x :: es, pc, h, j + 1, e, he => by
    simp only [am_get] at he
    simp only [am_oks, Bool.and_eq_true] at h
    have := am_oks_at es (pc + 1) h.2 j e he
    rw [show pc + (j + 1) = pc + 1 + j by omega]
    exact this
theorem am_oks_0 : am_oks 0 0 k_An_init = true := by decide +kernel
theorem am_oks_1 : am_oks 1 0 k_An_clear = true := by decide +kernel
theorem am_oks_2 : am_oks 2 0 k_An_count = true := by decide +kernel
theorem am_oks_3 : am_oks 3 0 k_An_add = true := by decide +kernel
theorem am_oks_4 : am_oks 4 0 k_An_has = true := by decide +kernel
theorem am_oks_5 : am_oks 5 0 k_An_textAt = true := by decide +kernel
theorem am_oks_6 : am_oks 6 0 k_An_weightAt = true := by decide +kernel
theorem am_oks_7 : am_oks 7 0 k_La_init = true := by decide +kernel
theorem am_oks_8 : am_oks 8 0 k_La_number = true := by decide +kernel
theorem am_oks_9 : am_oks 9 0 k_La_isStop = true := by decide +kernel
theorem am_oks_10 : am_oks 10 0 k_La_addStop = true := by decide +kernel
theorem am_oks_11 : am_oks 11 0 k_La_ruleCount = true := by decide +kernel
theorem am_oks_12 : am_oks 12 0 k_La_addRule = true := by decide +kernel
theorem am_oks_13 : am_oks 13 0 k_La_stemOf = true := by decide +kernel
theorem am_oks_14 : am_oks 14 0 k_La_isEnding = true := by decide +kernel
theorem am_oks_15 : am_oks 15 0 k_La_stemInTexts = true := by decide +kernel
theorem am_oks_16 : am_oks 16 0 k_Li_init = true := by decide +kernel
theorem am_oks_17 : am_oks 17 0 k_Li_clear = true := by decide +kernel
theorem am_oks_18 : am_oks 18 0 k_Li_count = true := by decide +kernel
theorem am_oks_19 : am_oks 19 0 k_Li_wordAt = true := by decide +kernel
theorem am_oks_20 : am_oks 20 0 k_Li_search = true := by decide +kernel
theorem am_oks_21 : am_oks 21 0 k_Li_offer = true := by decide +kernel
theorem am_oks_22 : am_oks 22 0 k_Li_holds = true := by decide +kernel
theorem am_oks_23 : am_oks 23 0 k_Li_insert = true := by decide +kernel
theorem am_oks_24 : am_oks 24 0 k_Li_standsBefore = true := by decide +kernel
theorem am_oks_25 : am_oks 25 0 k_Li_changesNeeded = true := by decide +kernel
theorem am_oks_26 : am_oks 26 0 k_Pa_init = true := by decide +kernel
theorem am_oks_27 : am_oks 27 0 k_Qu_init = true := by decide +kernel
theorem am_oks_28 : am_oks 28 0 k_Qu_read = true := by decide +kernel
theorem am_oks_29 : am_oks 29 0 k_Qu_skipBlanks = true := by decide +kernel
theorem am_oks_30 : am_oks 30 0 k_Qu_readPart = true := by decide +kernel
theorem am_oks_31 : am_oks 31 0 k_Qu_readPhrase = true := by decide +kernel
theorem am_oks_32 : am_oks 32 0 k_Qu_readWord = true := by decide +kernel
theorem am_oks_33 : am_oks 33 0 k_Qu_seek = true := by decide +kernel
theorem am_oks_34 : am_oks 34 0 k_Qu_stemSought = true := by decide +kernel
theorem am_oks_35 : am_oks 35 0 k_Qu_soughtBy = true := by decide +kernel
theorem am_oks_36 : am_oks 36 0 k_Qu_weigh = true := by decide +kernel
theorem am_oks_37 : am_oks 37 0 k_Qu_hasTerm = true := by decide +kernel
theorem am_oks_38 : am_oks 38 0 k_Qu_weightOf = true := by decide +kernel
theorem am_oks_39 : am_oks 39 0 k_Qu_isAnsweredBy = true := by decide +kernel
theorem am_oks_40 : am_oks 40 0 k_Qu_isPartAnsweredBy = true := by decide +kernel
theorem am_oks_41 : am_oks 41 0 k_Sh_init = true := by decide +kernel
theorem am_oks_42 : am_oks 42 0 k_Sh_put = true := by decide +kernel
theorem am_oks_43 : am_oks 43 0 k_Sh_takeAway = true := by decide +kernel
theorem am_oks_44 : am_oks 44 0 k_Sh_has = true := by decide +kernel
theorem am_oks_45 : am_oks 45 0 k_Sh_isIn = true := by decide +kernel
theorem am_oks_46 : am_oks 46 0 k_Sh_firstOf = true := by decide +kernel
theorem am_oks_47 : am_oks 47 0 k_Sh_endOf = true := by decide +kernel
theorem am_oks_48 : am_oks 48 0 k_Sh_stemAgain = true := by decide +kernel
theorem am_oks_49 : am_oks 49 0 k_Sh_hasPlace = true := by decide +kernel
theorem am_oks_50 : am_oks 50 0 k_Sh_startOf = true := by decide +kernel
theorem am_oks_51 : am_oks 51 0 k_Sh_sizeOf = true := by decide +kernel
theorem am_oks_52 : am_oks 52 0 k_Sh_countTexts = true := by decide +kernel
theorem am_oks_53 : am_oks 53 0 k_Sh_countStems = true := by decide +kernel
theorem am_oks_54 : am_oks 54 0 k_Sh_countNewStems = true := by decide +kernel
theorem am_oks_55 : am_oks 55 0 k_Sh_hasEarlier = true := by decide +kernel
theorem am_oks_56 : am_oks 56 0 k_Sh_timesOf = true := by decide +kernel
theorem am_oks_57 : am_oks 57 0 k_Sh_countTextsWith = true := by decide +kernel
theorem am_oks_58 : am_oks 58 0 k_Sh_hasBeginning = true := by decide +kernel
theorem am_oks_59 : am_oks 59 0 k_Sh_hasPhrase = true := by decide +kernel
theorem am_oks_60 : am_oks 60 0 k_Sh_standsAt = true := by decide +kernel
theorem am_oks_61 : am_oks 61 0 k_Sh_wordUnlessStop = true := by decide +kernel
theorem am_oks_62 : am_oks 62 0 k_Ta_init = true := by decide +kernel
theorem am_oks_63 : am_oks 63 0 k_Ta_length = true := by decide +kernel
theorem am_oks_64 : am_oks 64 0 k_Ta_append = true := by decide +kernel
theorem am_oks_65 : am_oks 65 0 k_Ta_clear = true := by decide +kernel
theorem am_oks_66 : am_oks 66 0 k_Ta_symbolAt = true := by decide +kernel
theorem am_oks_67 : am_oks 67 0 k_Ta_wordEnd = true := by decide +kernel
theorem am_oks_68 : am_oks 68 0 k_Ta_wordBetween = true := by decide +kernel
theorem am_oks_69 : am_oks 69 0 k_Ta_split = true := by decide +kernel
theorem am_oks_70 : am_oks 70 0 k_Ta_keepWord = true := by decide +kernel
theorem am_oks_71 : am_oks 71 0 k_Ta_wordCount = true := by decide +kernel
theorem am_oks_72 : am_oks 72 0 k_Ta_hasWord = true := by decide +kernel
theorem am_oks_73 : am_oks 73 0 k_Ta_wordAt = true := by decide +kernel
theorem am_oks_74 : am_oks 74 0 k_Ta_startAt = true := by decide +kernel
theorem am_oks_75 : am_oks 75 0 k_Ta_sizeAt = true := by decide +kernel
theorem am_oks_76 : am_oks 76 0 k_Wo_digitOf = true := by decide +kernel
theorem am_oks_77 : am_oks 77 0 k_Wo_withDigit = true := by decide +kernel
theorem am_oks_78 : am_oks 78 0 k_Wo_withZeros = true := by decide +kernel
theorem am_oks_79 : am_oks 79 0 k_Wo_withoutLast = true := by decide +kernel
theorem am_oks_80 : am_oks 80 0 k_Wo_lengthOf = true := by decide +kernel
theorem am_oks_81 : am_oks 81 0 k_Wo_symbolAt = true := by decide +kernel
theorem am_oks_82 : am_oks 82 0 k_Wo_isBeginning = true := by decide +kernel
theorem am_oks_83 : am_oks 83 0 k_Wo_spread = true := by decide +kernel
theorem am_oks_84 : am_oks 84 0 k_TI_init = true := by decide +kernel
theorem am_oks_85 : am_oks 85 0 k_TI_type = true := by decide +kernel
theorem am_oks_86 : am_oks 86 0 k_TI_text = true := by decide +kernel
theorem am_oks_87 : am_oks 87 0 k_TI_remove = true := by decide +kernel
theorem am_oks_88 : am_oks 88 0 k_TI_stop = true := by decide +kernel
theorem am_oks_89 : am_oks 89 0 k_TI_ending = true := by decide +kernel
theorem am_oks_90 : am_oks 90 0 k_TI_stem = true := by decide +kernel
theorem am_oks_91 : am_oks 91 0 k_TI_ask = true := by decide +kernel
theorem am_oks_92 : am_oks 92 0 k_TI_answer = true := by decide +kernel
theorem am_oks_93 : am_oks 93 0 k_TI_score = true := by decide +kernel
theorem am_oks_94 : am_oks 94 0 k_TI_like = true := by decide +kernel
theorem am_oks_95 : am_oks 95 0 k_TI_word = true := by decide +kernel
theorem am_oks_96 : am_oks 96 0 k_TI_at = true := by decide +kernel
theorem am_oks_97 : am_oks 97 0 k_TI_place = true := by decide +kernel
theorem am_oks_98 : am_oks 98 0 k_TI_texts = true := by decide +kernel
theorem am_oks_99 : am_oks 99 0 k_TI_stems = true := by decide +kernel
theorem am_oks_100 : am_oks 100 0 k_TI_languageOf = true := by decide +kernel
theorem am_oks_101 : am_oks 101 0 k_TI_takeFirstWord = true := by decide +kernel
theorem am_oks_102 : am_oks 102 0 k_TI_tell = true := by decide +kernel
theorem am_oks_103 : am_oks 103 0 k_Mo_init = true := by decide +kernel
theorem am_oks_104 : am_oks 104 0 k_Mo_byteOf = true := by decide +kernel
theorem am_oks_105 : am_oks 105 0 k_Mo_same = true := by decide +kernel
theorem am_oks_106 : am_oks 106 0 k_Mo_beginsSo = true := by decide +kernel
theorem am_oks_107 : am_oks 107 0 k_Mo_add = true := by decide +kernel
theorem am_oks_108 : am_oks 108 0 k_Mo_copy = true := by decide +kernel
theorem am_oks_109 : am_oks 109 0 k_Mo_letter = true := by decide +kernel
theorem am_oks_110 : am_oks 110 0 k_Mo_type = true := by decide +kernel
theorem am_oks_111 : am_oks 111 0 k_Mo_readWords = true := by decide +kernel
theorem am_oks_112 : am_oks 112 0 k_Mo_isLanguage = true := by decide +kernel
theorem am_oks_113 : am_oks 113 0 k_Mo_isStop = true := by decide +kernel
theorem am_oks_114 : am_oks 114 0 k_Mo_stop = true := by decide +kernel
theorem am_oks_115 : am_oks 115 0 k_Mo_endingAt = true := by decide +kernel
theorem am_oks_116 : am_oks 116 0 k_Mo_ending = true := by decide +kernel
theorem am_oks_117 : am_oks 117 0 k_Mo_ends = true := by decide +kernel
theorem am_oks_118 : am_oks 118 0 k_Mo_stemTo = true := by decide +kernel
theorem am_oks_119 : am_oks 119 0 k_Mo_show = true := by decide +kernel
theorem am_oks_120 : am_oks 120 0 k_Mo_stem = true := by decide +kernel
theorem am_oks_121 : am_oks 121 0 k_Mo_at = true := by decide +kernel
theorem am_oks_122 : am_oks 122 0 k_Mo_text = true := by decide +kernel
theorem am_oks_123 : am_oks 123 0 k_Mo_wordsOf = true := by decide +kernel
theorem am_oks_124 : am_oks 124 0 k_Mo_isText = true := by decide +kernel
theorem am_oks_125 : am_oks 125 0 k_Mo_remove = true := by decide +kernel
theorem am_oks_126 : am_oks 126 0 k_Mo_texts = true := by decide +kernel
theorem am_oks_127 : am_oks 127 0 k_Mo_place = true := by decide +kernel
theorem am_oks_128 : am_oks 128 0 k_Mo_hasAt = true := by decide +kernel
theorem am_oks_129 : am_oks 129 0 k_Mo_times = true := by decide +kernel
theorem am_oks_130 : am_oks 130 0 k_Mo_stems = true := by decide +kernel
theorem am_oks_131 : am_oks 131 0 k_Mo_isFirst = true := by decide +kernel
theorem am_oks_132 : am_oks 132 0 k_Mo_here = true := by decide +kernel
theorem am_oks_133 : am_oks 133 0 k_Mo_need = true := by decide +kernel
theorem am_oks_134 : am_oks 134 0 k_Mo_skip = true := by decide +kernel
theorem am_oks_135 : am_oks 135 0 k_Mo_isLetter = true := by decide +kernel
theorem am_oks_136 : am_oks 136 0 k_Mo_isPart = true := by decide +kernel
theorem am_oks_137 : am_oks 137 0 k_Mo_readWord = true := by decide +kernel
theorem am_oks_138 : am_oks 138 0 k_Mo_readPart = true := by decide +kernel
theorem am_oks_139 : am_oks 139 0 k_Mo_readQuestion = true := by decide +kernel
theorem am_oks_140 : am_oks 140 0 k_Mo_hasPhrase = true := by decide +kernel
theorem am_oks_141 : am_oks 141 0 k_Mo_answersPart = true := by decide +kernel
theorem am_oks_142 : am_oks 142 0 k_Mo_answersRow = true := by decide +kernel
theorem am_oks_143 : am_oks 143 0 k_Mo_isAsked = true := by decide +kernel
theorem am_oks_144 : am_oks 144 0 k_Mo_countStems = true := by decide +kernel
theorem am_oks_145 : am_oks 145 0 k_Mo_scoreOf = true := by decide +kernel
theorem am_oks_146 : am_oks 146 0 k_Mo_ask = true := by decide +kernel
theorem am_oks_147 : am_oks 147 0 k_Mo_answer = true := by decide +kernel
theorem am_oks_148 : am_oks 148 0 k_Mo_score = true := by decide +kernel
theorem am_oks_149 : am_oks 149 0 k_Mo_distance = true := by decide +kernel
theorem am_oks_150 : am_oks 150 0 k_Mo_isBefore = true := by decide +kernel
theorem am_oks_151 : am_oks 151 0 k_Mo_like = true := by decide +kernel
theorem am_oks_152 : am_oks 152 0 k_Mo_isLiked = true := by decide +kernel
theorem am_oks_153 : am_oks 153 0 k_Mo_word = true := by decide +kernel
theorem am_oks_154 : am_oks 154 0 k_Law_law = true := by decide +kernel
theorem am_oks_155 : am_oks 155 0 k_AL_init = true := by decide +kernel
theorem am_oks_156 : am_oks 156 0 k_AL_grow1 = true := by decide +kernel
theorem am_oks_157 : am_oks 157 0 k_AL_grow2 = true := by decide +kernel
theorem am_oks_158 : am_oks 158 0 k_AL_size = true := by decide +kernel
theorem am_oks_159 : am_oks 159 0 k_AL_elementData = true := by decide +kernel
theorem am_oks_160 : am_oks 160 0 k_AL_get = true := by decide +kernel
theorem am_oks_161 : am_oks 161 0 k_AL_add1 = true := by decide +kernel
theorem am_oks_162 : am_oks 162 0 k_AL_add2 = true := by decide +kernel
theorem am_oks_163 : am_oks 163 0 k_AL_clear = true := by decide +kernel
theorem am_oks_164 : am_oks 164 0 k_Ab_init = true := by decide +kernel
theorem am_oks_165 : am_oks 165 0 k_AC_init = true := by decide +kernel
theorem am_oks_166 : am_oks 166 0 k_Ar_copyOf1 = true := by decide +kernel
theorem am_oks_167 : am_oks 167 0 k_Ar_copyOf2 = true := by decide +kernel
theorem am_oks_168 : am_oks 168 0 k_Ar_copyOf3 = true := by decide +kernel
theorem am_oks_169 : am_oks 169 0 k_Ob_checkIndex = true := by decide +kernel
theorem am_oks_170 : am_oks 170 0 k_AS_newLength = true := by decide +kernel
theorem am_oks_171 : am_oks 171 0 k_Pr_checkIndex = true := by decide +kernel
theorem am_okE : ∀ (m : Nat) (l : List am_e), am_get am_code m = some l → am_oks m 0 l = true := by
  intro m l h
  match m, h with
  | 0, h => cases h; exact am_oks_0
  | 1, h => cases h; exact am_oks_1
  | 2, h => cases h; exact am_oks_2
  | 3, h => cases h; exact am_oks_3
  | 4, h => cases h; exact am_oks_4
  | 5, h => cases h; exact am_oks_5
  | 6, h => cases h; exact am_oks_6
  | 7, h => cases h; exact am_oks_7
  | 8, h => cases h; exact am_oks_8
  | 9, h => cases h; exact am_oks_9
  | 10, h => cases h; exact am_oks_10
  | 11, h => cases h; exact am_oks_11
  | 12, h => cases h; exact am_oks_12
  | 13, h => cases h; exact am_oks_13
  | 14, h => cases h; exact am_oks_14
  | 15, h => cases h; exact am_oks_15
  | 16, h => cases h; exact am_oks_16
  | 17, h => cases h; exact am_oks_17
  | 18, h => cases h; exact am_oks_18
  | 19, h => cases h; exact am_oks_19
  | 20, h => cases h; exact am_oks_20
  | 21, h => cases h; exact am_oks_21
  | 22, h => cases h; exact am_oks_22
  | 23, h => cases h; exact am_oks_23
  | 24, h => cases h; exact am_oks_24
  | 25, h => cases h; exact am_oks_25
  | 26, h => cases h; exact am_oks_26
  | 27, h => cases h; exact am_oks_27
  | 28, h => cases h; exact am_oks_28
  | 29, h => cases h; exact am_oks_29
  | 30, h => cases h; exact am_oks_30
  | 31, h => cases h; exact am_oks_31
  | 32, h => cases h; exact am_oks_32
  | 33, h => cases h; exact am_oks_33
  | 34, h => cases h; exact am_oks_34
  | 35, h => cases h; exact am_oks_35
  | 36, h => cases h; exact am_oks_36
  | 37, h => cases h; exact am_oks_37
  | 38, h => cases h; exact am_oks_38
  | 39, h => cases h; exact am_oks_39
  | 40, h => cases h; exact am_oks_40
  | 41, h => cases h; exact am_oks_41
  | 42, h => cases h; exact am_oks_42
  | 43, h => cases h; exact am_oks_43
  | 44, h => cases h; exact am_oks_44
  | 45, h => cases h; exact am_oks_45
  | 46, h => cases h; exact am_oks_46
  | 47, h => cases h; exact am_oks_47
  | 48, h => cases h; exact am_oks_48
  | 49, h => cases h; exact am_oks_49
  | 50, h => cases h; exact am_oks_50
  | 51, h => cases h; exact am_oks_51
  | 52, h => cases h; exact am_oks_52
  | 53, h => cases h; exact am_oks_53
  | 54, h => cases h; exact am_oks_54
  | 55, h => cases h; exact am_oks_55
  | 56, h => cases h; exact am_oks_56
  | 57, h => cases h; exact am_oks_57
  | 58, h => cases h; exact am_oks_58
  | 59, h => cases h; exact am_oks_59
  | 60, h => cases h; exact am_oks_60
  | 61, h => cases h; exact am_oks_61
  | 62, h => cases h; exact am_oks_62
  | 63, h => cases h; exact am_oks_63
  | 64, h => cases h; exact am_oks_64
  | 65, h => cases h; exact am_oks_65
  | 66, h => cases h; exact am_oks_66
  | 67, h => cases h; exact am_oks_67
  | 68, h => cases h; exact am_oks_68
  | 69, h => cases h; exact am_oks_69
  | 70, h => cases h; exact am_oks_70
  | 71, h => cases h; exact am_oks_71
  | 72, h => cases h; exact am_oks_72
  | 73, h => cases h; exact am_oks_73
  | 74, h => cases h; exact am_oks_74
  | 75, h => cases h; exact am_oks_75
  | 76, h => cases h; exact am_oks_76
  | 77, h => cases h; exact am_oks_77
  | 78, h => cases h; exact am_oks_78
  | 79, h => cases h; exact am_oks_79
  | 80, h => cases h; exact am_oks_80
  | 81, h => cases h; exact am_oks_81
  | 82, h => cases h; exact am_oks_82
  | 83, h => cases h; exact am_oks_83
  | 84, h => cases h; exact am_oks_84
  | 85, h => cases h; exact am_oks_85
  | 86, h => cases h; exact am_oks_86
  | 87, h => cases h; exact am_oks_87
  | 88, h => cases h; exact am_oks_88
  | 89, h => cases h; exact am_oks_89
  | 90, h => cases h; exact am_oks_90
  | 91, h => cases h; exact am_oks_91
  | 92, h => cases h; exact am_oks_92
  | 93, h => cases h; exact am_oks_93
  | 94, h => cases h; exact am_oks_94
  | 95, h => cases h; exact am_oks_95
  | 96, h => cases h; exact am_oks_96
  | 97, h => cases h; exact am_oks_97
  | 98, h => cases h; exact am_oks_98
  | 99, h => cases h; exact am_oks_99
  | 100, h => cases h; exact am_oks_100
  | 101, h => cases h; exact am_oks_101
  | 102, h => cases h; exact am_oks_102
  | 103, h => cases h; exact am_oks_103
  | 104, h => cases h; exact am_oks_104
  | 105, h => cases h; exact am_oks_105
  | 106, h => cases h; exact am_oks_106
  | 107, h => cases h; exact am_oks_107
  | 108, h => cases h; exact am_oks_108
  | 109, h => cases h; exact am_oks_109
  | 110, h => cases h; exact am_oks_110
  | 111, h => cases h; exact am_oks_111
  | 112, h => cases h; exact am_oks_112
  | 113, h => cases h; exact am_oks_113
  | 114, h => cases h; exact am_oks_114
  | 115, h => cases h; exact am_oks_115
  | 116, h => cases h; exact am_oks_116
  | 117, h => cases h; exact am_oks_117
  | 118, h => cases h; exact am_oks_118
  | 119, h => cases h; exact am_oks_119
  | 120, h => cases h; exact am_oks_120
  | 121, h => cases h; exact am_oks_121
  | 122, h => cases h; exact am_oks_122
  | 123, h => cases h; exact am_oks_123
  | 124, h => cases h; exact am_oks_124
  | 125, h => cases h; exact am_oks_125
  | 126, h => cases h; exact am_oks_126
  | 127, h => cases h; exact am_oks_127
  | 128, h => cases h; exact am_oks_128
  | 129, h => cases h; exact am_oks_129
  | 130, h => cases h; exact am_oks_130
  | 131, h => cases h; exact am_oks_131
  | 132, h => cases h; exact am_oks_132
  | 133, h => cases h; exact am_oks_133
  | 134, h => cases h; exact am_oks_134
  | 135, h => cases h; exact am_oks_135
  | 136, h => cases h; exact am_oks_136
  | 137, h => cases h; exact am_oks_137
  | 138, h => cases h; exact am_oks_138
  | 139, h => cases h; exact am_oks_139
  | 140, h => cases h; exact am_oks_140
  | 141, h => cases h; exact am_oks_141
  | 142, h => cases h; exact am_oks_142
  | 143, h => cases h; exact am_oks_143
  | 144, h => cases h; exact am_oks_144
  | 145, h => cases h; exact am_oks_145
  | 146, h => cases h; exact am_oks_146
  | 147, h => cases h; exact am_oks_147
  | 148, h => cases h; exact am_oks_148
  | 149, h => cases h; exact am_oks_149
  | 150, h => cases h; exact am_oks_150
  | 151, h => cases h; exact am_oks_151
  | 152, h => cases h; exact am_oks_152
  | 153, h => cases h; exact am_oks_153
  | 154, h => cases h; exact am_oks_154
  | 155, h => cases h; exact am_oks_155
  | 156, h => cases h; exact am_oks_156
  | 157, h => cases h; exact am_oks_157
  | 158, h => cases h; exact am_oks_158
  | 159, h => cases h; exact am_oks_159
  | 160, h => cases h; exact am_oks_160
  | 161, h => cases h; exact am_oks_161
  | 162, h => cases h; exact am_oks_162
  | 163, h => cases h; exact am_oks_163
  | 164, h => cases h; exact am_oks_164
  | 165, h => cases h; exact am_oks_165
  | 166, h => cases h; exact am_oks_166
  | 167, h => cases h; exact am_oks_167
  | 168, h => cases h; exact am_oks_168
  | 169, h => cases h; exact am_oks_169
  | 170, h => cases h; exact am_oks_170
  | 171, h => cases h; exact am_oks_171
  | n + 172, h => simp [am_code, am_get] at h
theorem am_E_ok {m pc : Nat} {e : am_e} (h : am_E m pc = some e) : am_okb m pc e = true := by
  unfold am_E at h
  cases hm : am_get am_code m with
  | none => rw [hm] at h; cases h
  | some l =>
    rw [hm] at h
    have := am_oks_at l 0 (am_okE m l hm) pc e h
    rwa [Nat.zero_add] at this
