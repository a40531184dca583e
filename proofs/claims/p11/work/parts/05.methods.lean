noncomputable section
/-- WhoMentionsIt.<init>()V -/
def em_0 : eM := (⟨"WhoMentionsIt", "<init>", "()V"⟩, prog_1_method_1_code, 2, ((Option.none)), 153, ec_0)
/-- WhoMentionsIt.word(II)I -/
def em_1 : eM := (⟨"WhoMentionsIt", "word", "(II)I"⟩, prog_1_method_2_code, 3, ((Option.some FieldType.int)), 42, ec_1)
/-- WhoMentionsIt.words(III)I -/
def em_2 : eM := (⟨"WhoMentionsIt", "words", "(III)I"⟩, prog_1_method_3_code, 5, ((Option.some FieldType.int)), 67, ec_2)
/-- WhoMentionsIt.takeWords(LWhoMentionsIt$Shelf;II)I -/
def em_3 : eM := (⟨"WhoMentionsIt", "takeWords", "(LWhoMentionsIt$Shelf;II)I"⟩, prog_1_method_4_code, 10, ((Option.some FieldType.int)), 107, ec_3)
/-- WhoMentionsIt.person(I)I -/
def em_4 : eM := (⟨"WhoMentionsIt", "person", "(I)I"⟩, prog_1_method_5_code, 2, ((Option.some FieldType.int)), 25, ec_4)
/-- WhoMentionsIt.mend(III)I -/
def em_5 : eM := (⟨"WhoMentionsIt", "mend", "(III)I"⟩, prog_1_method_6_code, 5, ((Option.some FieldType.int)), 52, ec_5)
/-- WhoMentionsIt.of(II)I -/
def em_6 : eM := (⟨"WhoMentionsIt", "of", "(II)I"⟩, prog_1_method_7_code, 3, ((Option.some FieldType.int)), 28, ec_6)
/-- WhoMentionsIt.feed(I)I -/
def em_7 : eM := (⟨"WhoMentionsIt", "feed", "(I)I"⟩, prog_1_method_8_code, 2, ((Option.some FieldType.int)), 24, ec_7)
/-- WhoMentionsIt.law()I -/
def em_8 : eM := (⟨"WhoMentionsIt", "law", "()I"⟩, prog_1_method_9_code, 2, ((Option.some FieldType.int)), 56, ec_8)
/-- WhoMentionsIt.said(III)I -/
def em_9 : eM := (⟨"WhoMentionsIt", "said", "(III)I"⟩, prog_1_method_10_code, 8, ((Option.some FieldType.int)), 194, ec_9)
/-- WhoMentionsIt.safely(III)I -/
def em_10 : eM := (⟨"WhoMentionsIt", "safely", "(III)I"⟩, prog_1_method_11_code, 5, ((Option.some FieldType.int)), 100, ec_10)
/-- WhoMentionsIt.pad(II)I -/
def em_11 : eM := (⟨"WhoMentionsIt", "pad", "(II)I"⟩, prog_1_method_12_code, 4, ((Option.some FieldType.int)), 70, ec_11)
/-- WhoMentionsIt.dangerous(II)I -/
def em_12 : eM := (⟨"WhoMentionsIt", "dangerous", "(II)I"⟩, prog_1_method_13_code, 7, ((Option.some FieldType.int)), 139, ec_12)
/-- WhoMentionsIt.wordFor(II)I -/
def em_13 : eM := (⟨"WhoMentionsIt", "wordFor", "(II)I"⟩, prog_1_method_14_code, 6, ((Option.some FieldType.int)), 117, ec_13)
/-- WhoMentionsIt.bare(I)I -/
def em_14 : eM := (⟨"WhoMentionsIt", "bare", "(I)I"⟩, prog_1_method_15_code, 6, ((Option.some FieldType.int)), 91, ec_14)
/-- WhoMentionsIt.sum(I)I -/
def em_15 : eM := (⟨"WhoMentionsIt", "sum", "(I)I"⟩, prog_1_method_16_code, 2, ((Option.some FieldType.int)), 23, ec_15)
/-- WhoMentionsIt.can(I)I -/
def em_16 : eM := (⟨"WhoMentionsIt", "can", "(I)I"⟩, prog_1_method_17_code, 2, ((Option.some FieldType.int)), 21, ec_16)
/-- WhoMentionsIt.lastDayOf(I)I -/
def em_17 : eM := (⟨"WhoMentionsIt", "lastDayOf", "(I)I"⟩, prog_1_method_18_code, 4, ((Option.some FieldType.int)), 65, ec_17)
/-- WhoMentionsIt.firstToGo(I)I -/
def em_18 : eM := (⟨"WhoMentionsIt", "firstToGo", "(I)I"⟩, prog_1_method_19_code, 6, ((Option.some FieldType.int)), 80, ec_18)
/-- WhoMentionsIt.begin(I)I -/
def em_19 : eM := (⟨"WhoMentionsIt", "begin", "(I)I"⟩, prog_1_method_20_code, 2, ((Option.some FieldType.int)), 49, ec_19)
/-- WhoMentionsIt.treaty(II)I -/
def em_20 : eM := (⟨"WhoMentionsIt", "treaty", "(II)I"⟩, prog_1_method_21_code, 8, ((Option.some FieldType.int)), 180, ec_20)
/-- WhoMentionsIt.talk(II)I -/
def em_21 : eM := (⟨"WhoMentionsIt", "talk", "(II)I"⟩, prog_1_method_22_code, 9, ((Option.some FieldType.int)), 197, ec_21)
/-- WhoMentionsIt.levelOfSaying(II)I -/
def em_22 : eM := (⟨"WhoMentionsIt", "levelOfSaying", "(II)I"⟩, prog_1_method_23_code, 3, ((Option.some FieldType.int)), 70, ec_22)
/-- WhoMentionsIt.ask(III)I -/
def em_23 : eM := (⟨"WhoMentionsIt", "ask", "(III)I"⟩, prog_1_method_24_code, 5, ((Option.some FieldType.int)), 83, ec_23)
/-- WhoMentionsIt.isSafeAnswer(I)Z -/
def em_24 : eM := (⟨"WhoMentionsIt", "isSafeAnswer", "(I)Z"⟩, prog_1_method_25_code, 2, ((Option.some FieldType.boolean)), 35, ec_24)
/-- WhoMentionsIt.corner(I)I -/
def em_25 : eM := (⟨"WhoMentionsIt", "corner", "(I)I"⟩, prog_1_method_26_code, 5, ((Option.some FieldType.int)), 74, ec_25)
/-- WhoMentionsIt.judge(II)I -/
def em_26 : eM := (⟨"WhoMentionsIt", "judge", "(II)I"⟩, prog_1_method_27_code, 4, ((Option.some FieldType.int)), 51, ec_26)
/-- WhoMentionsIt.firstMentioned(LWhoMentionsIt$Shelf;I)I -/
def em_27 : eM := (⟨"WhoMentionsIt", "firstMentioned", "(LWhoMentionsIt$Shelf;I)I"⟩, prog_1_method_28_code, 5, ((Option.some FieldType.int)), 63, ec_27)
/-- WhoMentionsIt.months(III)I -/
def em_28 : eM := (⟨"WhoMentionsIt", "months", "(III)I"⟩, prog_1_method_29_code, 6, ((Option.some FieldType.int)), 95, ec_28)
/-- WhoMentionsIt.neverSaid(LWhoMentionsIt$Shelf;)I -/
def em_29 : eM := (⟨"WhoMentionsIt", "neverSaid", "(LWhoMentionsIt$Shelf;)I"⟩, prog_1_method_30_code, 5, ((Option.some FieldType.int)), 58, ec_29)
/-- WhoMentionsIt.leastBound(LWhoMentionsIt$Shelf;)I -/
def em_30 : eM := (⟨"WhoMentionsIt", "leastBound", "(LWhoMentionsIt$Shelf;)I"⟩, prog_1_method_31_code, 5, ((Option.some FieldType.int)), 67, ec_30)
/-- WhoMentionsIt.tooNear(LWhoMentionsIt$Shelf;)I -/
def em_31 : eM := (⟨"WhoMentionsIt", "tooNear", "(LWhoMentionsIt$Shelf;)I"⟩, prog_1_method_32_code, 5, ((Option.some FieldType.int)), 101, ec_31)
/-- WhoMentionsIt.mayBe(II)I -/
def em_32 : eM := (⟨"WhoMentionsIt", "mayBe", "(II)I"⟩, prog_1_method_33_code, 9, ((Option.some FieldType.int)), 146, ec_32)
/-- WhoMentionsIt.drawn(III)I -/
def em_33 : eM := (⟨"WhoMentionsIt", "drawn", "(III)I"⟩, prog_1_method_34_code, 10, ((Option.some FieldType.int)), 204, ec_33)
/-- WhoMentionsIt.utter(II)I -/
def em_34 : eM := (⟨"WhoMentionsIt", "utter", "(II)I"⟩, prog_1_method_35_code, 4, ((Option.some FieldType.int)), 54, ec_34)
/-- WhoMentionsIt.day()I -/
def em_35 : eM := (⟨"WhoMentionsIt", "day", "()I"⟩, prog_1_method_36_code, 1, ((Option.some FieldType.int)), 28, ec_35)
/-- WhoMentionsIt.levy()I -/
def em_36 : eM := (⟨"WhoMentionsIt", "levy", "()I"⟩, prog_1_method_37_code, 1, ((Option.some FieldType.int)), 8, ec_36)
/-- WhoMentionsIt.led(I)I -/
def em_37 : eM := (⟨"WhoMentionsIt", "led", "(I)I"⟩, prog_1_method_38_code, 2, ((Option.some FieldType.int)), 23, ec_37)
/-- WhoMentionsIt.image()I -/
def em_38 : eM := (⟨"WhoMentionsIt", "image", "()I"⟩, prog_1_method_39_code, 1, ((Option.some FieldType.int)), 17, ec_38)
/-- WhoMentionsIt.back()I -/
def em_39 : eM := (⟨"WhoMentionsIt", "back", "()I"⟩, prog_1_method_40_code, 1, ((Option.some FieldType.int)), 30, ec_39)
/-- WhoMentionsIt.undo()I -/
def em_40 : eM := (⟨"WhoMentionsIt", "undo", "()I"⟩, prog_1_method_41_code, 1, ((Option.some FieldType.int)), 23, ec_40)
/-- WhoMentionsIt.redo()I -/
def em_41 : eM := (⟨"WhoMentionsIt", "redo", "()I"⟩, prog_1_method_42_code, 1, ((Option.some FieldType.int)), 23, ec_41)
/-- WhoMentionsIt.body(I)I -/
def em_42 : eM := (⟨"WhoMentionsIt", "body", "(I)I"⟩, prog_1_method_43_code, 2, ((Option.some FieldType.int)), 20, ec_42)
/-- WhoMentionsIt.act(III)I -/
def em_43 : eM := (⟨"WhoMentionsIt", "act", "(III)I"⟩, prog_1_method_44_code, 4, ((Option.some FieldType.int)), 11, ec_43)
/-- WhoMentionsIt.trace(I)I -/
def em_44 : eM := (⟨"WhoMentionsIt", "trace", "(I)I"⟩, prog_1_method_45_code, 2, ((Option.some FieldType.int)), 25, ec_44)
/-- WhoMentionsIt.keep(II)I -/
def em_45 : eM := (⟨"WhoMentionsIt", "keep", "(II)I"⟩, prog_1_method_46_code, 3, ((Option.some FieldType.int)), 54, ec_45)
/-- WhoMentionsIt.row(III)I -/
def em_46 : eM := (⟨"WhoMentionsIt", "row", "(III)I"⟩, prog_1_method_47_code, 4, ((Option.some FieldType.int)), 44, ec_46)
/-- WhoMentionsIt.put(IIJ)I -/
def em_47 : eM := (⟨"WhoMentionsIt", "put", "(IIJ)I"⟩, prog_1_method_48_code, 6, ((Option.some FieldType.int)), 49, ec_47)
/-- WhoMentionsIt.element(II)J -/
def em_48 : eM := (⟨"WhoMentionsIt", "element", "(II)J"⟩, prog_1_method_49_code, 3, ((Option.some FieldType.long)), 36, ec_48)
/-- WhoMentionsIt.shift(IIIII)I -/
def em_49 : eM := (⟨"WhoMentionsIt", "shift", "(IIIII)I"⟩, prog_1_method_50_code, 8, ((Option.some FieldType.int)), 132, ec_49)
/-- WhoMentionsIt.taken(II)I -/
def em_50 : eM := (⟨"WhoMentionsIt", "taken", "(II)I"⟩, prog_1_method_51_code, 4, ((Option.some FieldType.int)), 79, ec_50)
/-- WhoMentionsIt.count(I)I -/
def em_51 : eM := (⟨"WhoMentionsIt", "count", "(I)I"⟩, prog_1_method_52_code, 2, ((Option.some FieldType.int)), 90, ec_51)
/-- WhoMentionsIt.isShelf(I)Z -/
def em_52 : eM := (⟨"WhoMentionsIt", "isShelf", "(I)Z"⟩, prog_1_method_53_code, 1, ((Option.some FieldType.boolean)), 16, ec_52)
/-- WhoMentionsIt.isPersonInFront(I)Z -/
def em_53 : eM := (⟨"WhoMentionsIt", "isPersonInFront", "(I)Z"⟩, prog_1_method_54_code, 2, ((Option.some FieldType.boolean)), 24, ec_53)
/-- WhoMentionsItModel.<init>()V -/
def em_54 : eM := (⟨"WhoMentionsItModel", "<init>", "()V"⟩, prog_12_method_1_code, 1, ((Option.none)), 320, ec_54)
/-- WhoMentionsItModel.in(III)Z -/
def em_55 : eM := (⟨"WhoMentionsItModel", "in", "(III)Z"⟩, prog_12_method_3_code, 3, ((Option.some FieldType.boolean)), 16, ec_55)
/-- WhoMentionsItModel.isWord(I)Z -/
def em_56 : eM := (⟨"WhoMentionsItModel", "isWord", "(I)Z"⟩, prog_12_method_4_code, 2, ((Option.some FieldType.boolean)), 12, ec_56)
/-- WhoMentionsItModel.isPerson(I)Z -/
def em_57 : eM := (⟨"WhoMentionsItModel", "isPerson", "(I)Z"⟩, prog_12_method_5_code, 2, ((Option.some FieldType.boolean)), 12, ec_57)
/-- WhoMentionsItModel.addWord(III)I -/
def em_58 : eM := (⟨"WhoMentionsItModel", "addWord", "(III)I"⟩, prog_12_method_6_code, 4, ((Option.some FieldType.int)), 47, ec_58)
/-- WhoMentionsItModel.word(II)I -/
def em_59 : eM := (⟨"WhoMentionsItModel", "word", "(II)I"⟩, prog_12_method_7_code, 3, ((Option.some FieldType.int)), 60, ec_59)
/-- WhoMentionsItModel.words(III)I -/
def em_60 : eM := (⟨"WhoMentionsItModel", "words", "(III)I"⟩, prog_12_method_8_code, 8, ((Option.some FieldType.int)), 219, ec_60)
/-- WhoMentionsItModel.person(I)I -/
def em_61 : eM := (⟨"WhoMentionsItModel", "person", "(I)I"⟩, prog_12_method_9_code, 2, ((Option.some FieldType.int)), 73, ec_61)
/-- WhoMentionsItModel.valueAt(II)I -/
def em_62 : eM := (⟨"WhoMentionsItModel", "valueAt", "(II)I"⟩, prog_12_method_10_code, 3, ((Option.some FieldType.int)), 92, ec_62)
/-- WhoMentionsItModel.lays(III)V -/
def em_63 : eM := (⟨"WhoMentionsItModel", "lays", "(III)V"⟩, prog_12_method_11_code, 4, ((Option.none)), 111, ec_63)
/-- WhoMentionsItModel.changes(III)I -/
def em_64 : eM := (⟨"WhoMentionsItModel", "changes", "(III)I"⟩, prog_12_method_12_code, 6, ((Option.some FieldType.int)), 182, ec_64)
/-- WhoMentionsItModel.undo()I -/
def em_65 : eM := (⟨"WhoMentionsItModel", "undo", "()I"⟩, prog_12_method_13_code, 1, ((Option.some FieldType.int)), 66, ec_65)
/-- WhoMentionsItModel.redo()I -/
def em_66 : eM := (⟨"WhoMentionsItModel", "redo", "()I"⟩, prog_12_method_14_code, 1, ((Option.some FieldType.int)), 66, ec_66)
/-- WhoMentionsItModel.isOne(II)Z -/
def em_67 : eM := (⟨"WhoMentionsItModel", "isOne", "(II)Z"⟩, prog_12_method_15_code, 3, ((Option.some FieldType.boolean)), 55, ec_67)
/-- WhoMentionsItModel.mayHave(II)Z -/
def em_68 : eM := (⟨"WhoMentionsItModel", "mayHave", "(II)Z"⟩, prog_12_method_16_code, 2, ((Option.some FieldType.boolean)), 126, ec_68)
/-- WhoMentionsItModel.mend(III)I -/
def em_69 : eM := (⟨"WhoMentionsItModel", "mend", "(III)I"⟩, prog_12_method_17_code, 4, ((Option.some FieldType.int)), 29, ec_69)
/-- WhoMentionsItModel.of(II)I -/
def em_70 : eM := (⟨"WhoMentionsItModel", "of", "(II)I"⟩, prog_12_method_18_code, 3, ((Option.some FieldType.int)), 20, ec_70)
/-- WhoMentionsItModel.feed(I)I -/
def em_71 : eM := (⟨"WhoMentionsItModel", "feed", "(I)I"⟩, prog_12_method_19_code, 2, ((Option.some FieldType.int)), 51, ec_71)
/-- WhoMentionsItModel.look()I -/
def em_72 : eM := (⟨"WhoMentionsItModel", "look", "()I"⟩, prog_12_method_20_code, 1, ((Option.some FieldType.int)), 25, ec_72)
/-- WhoMentionsItModel.wrong()V -/
def em_73 : eM := (⟨"WhoMentionsItModel", "wrong", "()V"⟩, prog_12_method_21_code, 1, ((Option.none)), 16, ec_73)
/-- WhoMentionsItModel.addStep(II)V -/
def em_74 : eM := (⟨"WhoMentionsItModel", "addStep", "(II)V"⟩, prog_12_method_22_code, 3, ((Option.none)), 40, ec_74)
/-- WhoMentionsItModel.nameOf(I)I -/
def em_75 : eM := (⟨"WhoMentionsItModel", "nameOf", "(I)I"⟩, prog_12_method_23_code, 1, ((Option.some FieldType.int)), 74, ec_75)
/-- WhoMentionsItModel.opens()Z -/
def em_76 : eM := (⟨"WhoMentionsItModel", "opens", "()Z"⟩, prog_12_method_24_code, 1, ((Option.some FieldType.boolean)), 37, ec_76)
/-- WhoMentionsItModel.figure()V -/
def em_77 : eM := (⟨"WhoMentionsItModel", "figure", "()V"⟩, prog_12_method_25_code, 3, ((Option.none)), 81, ec_77)
/-- WhoMentionsItModel.operand()V -/
def em_78 : eM := (⟨"WhoMentionsItModel", "operand", "()V"⟩, prog_12_method_26_code, 2, ((Option.none)), 155, ec_78)
/-- WhoMentionsItModel.product()V -/
def em_79 : eM := (⟨"WhoMentionsItModel", "product", "()V"⟩, prog_12_method_27_code, 2, ((Option.none)), 67, ec_79)
/-- WhoMentionsItModel.oneSum()V -/
def em_80 : eM := (⟨"WhoMentionsItModel", "oneSum", "()V"⟩, prog_12_method_28_code, 2, ((Option.none)), 58, ec_80)
/-- WhoMentionsItModel.compared()V -/
def em_81 : eM := (⟨"WhoMentionsItModel", "compared", "()V"⟩, prog_12_method_29_code, 2, ((Option.none)), 56, ec_81)
/-- WhoMentionsItModel.both()V -/
def em_82 : eM := (⟨"WhoMentionsItModel", "both", "()V"⟩, prog_12_method_30_code, 1, ((Option.none)), 45, ec_82)
/-- WhoMentionsItModel.either()V -/
def em_83 : eM := (⟨"WhoMentionsItModel", "either", "()V"⟩, prog_12_method_31_code, 1, ((Option.none)), 45, ec_83)
/-- WhoMentionsItModel.line()V -/
def em_84 : eM := (⟨"WhoMentionsItModel", "line", "()V"⟩, prog_12_method_32_code, 2, ((Option.none)), 88, ec_84)
/-- WhoMentionsItModel.readText(I)I -/
def em_85 : eM := (⟨"WhoMentionsItModel", "readText", "(I)I"⟩, prog_12_method_33_code, 3, ((Option.some FieldType.int)), 235, ec_85)
/-- WhoMentionsItModel.twoOf(III)I -/
def em_86 : eM := (⟨"WhoMentionsItModel", "twoOf", "(III)I"⟩, prog_12_method_34_code, 3, ((Option.some FieldType.int)), 232, ec_86)
/-- WhoMentionsItModel.worked(III)I -/
def em_87 : eM := (⟨"WhoMentionsItModel", "worked", "(III)I"⟩, prog_12_method_35_code, 7, ((Option.some FieldType.int)), 195, ec_87)
/-- WhoMentionsItModel.gives(I)I -/
def em_88 : eM := (⟨"WhoMentionsItModel", "gives", "(I)I"⟩, prog_12_method_36_code, 4, ((Option.some FieldType.int)), 80, ec_88)
/-- WhoMentionsItModel.law()I -/
def em_89 : eM := (⟨"WhoMentionsItModel", "law", "()I"⟩, prog_12_method_37_code, 2, ((Option.some FieldType.int)), 22, ec_89)
/-- WhoMentionsItModel.givesBy(IIII)I -/
def em_90 : eM := (⟨"WhoMentionsItModel", "givesBy", "(IIII)I"⟩, prog_12_method_38_code, 7, ((Option.some FieldType.int)), 147, ec_90)
/-- WhoMentionsItModel.rowFault(II)I -/
def em_91 : eM := (⟨"WhoMentionsItModel", "rowFault", "(II)I"⟩, prog_12_method_39_code, 3, ((Option.some FieldType.int)), 35, ec_91)
/-- WhoMentionsItModel.at(II)I -/
def em_92 : eM := (⟨"WhoMentionsItModel", "at", "(II)I"⟩, prog_12_method_40_code, 3, ((Option.some FieldType.int)), 13, ec_92)
/-- WhoMentionsItModel.laySentence(I)V -/
def em_93 : eM := (⟨"WhoMentionsItModel", "laySentence", "(I)V"⟩, prog_12_method_41_code, 2, ((Option.none)), 75, ec_93)
/-- WhoMentionsItModel.nearBy(II)I -/
def em_94 : eM := (⟨"WhoMentionsItModel", "nearBy", "(II)I"⟩, prog_12_method_42_code, 6, ((Option.some FieldType.int)), 73, ec_94)
/-- WhoMentionsItModel.nearOne(II)I -/
def em_95 : eM := (⟨"WhoMentionsItModel", "nearOne", "(II)I"⟩, prog_12_method_43_code, 3, ((Option.some FieldType.int)), 14, ec_95)
/-- WhoMentionsItModel.nearTwo(III)I -/
def em_96 : eM := (⟨"WhoMentionsItModel", "nearTwo", "(III)I"⟩, prog_12_method_44_code, 4, ((Option.some FieldType.int)), 21, ec_96)
/-- WhoMentionsItModel.saidBy(I)I -/
def em_97 : eM := (⟨"WhoMentionsItModel", "saidBy", "(I)I"⟩, prog_12_method_45_code, 2, ((Option.some FieldType.int)), 30, ec_97)
/-- WhoMentionsItModel.isHeard(I)Z -/
def em_98 : eM := (⟨"WhoMentionsItModel", "isHeard", "(I)Z"⟩, prog_12_method_46_code, 3, ((Option.some FieldType.boolean)), 39, ec_98)
/-- WhoMentionsItModel.sumOn(J)I -/
def em_99 : eM := (⟨"WhoMentionsItModel", "sumOn", "(J)I"⟩, prog_12_method_47_code, 5, ((Option.some FieldType.int)), 35, ec_99)
/-- WhoMentionsItModel.owesBy(III)I -/
def em_100 : eM := (⟨"WhoMentionsItModel", "owesBy", "(III)I"⟩, prog_12_method_48_code, 4, ((Option.some FieldType.int)), 34, ec_100)
/-- WhoMentionsItModel.firstMentioned(I)I -/
def em_101 : eM := (⟨"WhoMentionsItModel", "firstMentioned", "(I)I"⟩, prog_12_method_49_code, 3, ((Option.some FieldType.int)), 37, ec_101)
/-- WhoMentionsItModel.said(III)I -/
def em_102 : eM := (⟨"WhoMentionsItModel", "said", "(III)I"⟩, prog_12_method_50_code, 7, ((Option.some FieldType.int)), 153, ec_102)
/-- WhoMentionsItModel.layKins(I)V -/
def em_103 : eM := (⟨"WhoMentionsItModel", "layKins", "(I)V"⟩, prog_12_method_51_code, 2, ((Option.none)), 77, ec_103)
/-- WhoMentionsItModel.findGiven(II)V -/
def em_104 : eM := (⟨"WhoMentionsItModel", "findGiven", "(II)V"⟩, prog_12_method_52_code, 6, ((Option.none)), 107, ec_104)
/-- WhoMentionsItModel.openBy(IIIII)I -/
def em_105 : eM := (⟨"WhoMentionsItModel", "openBy", "(IIIII)I"⟩, prog_12_method_53_code, 7, ((Option.some FieldType.int)), 44, ec_105)
/-- WhoMentionsItModel.leastFrom(III)I -/
def em_106 : eM := (⟨"WhoMentionsItModel", "leastFrom", "(III)I"⟩, prog_12_method_54_code, 4, ((Option.some FieldType.int)), 18, ec_106)
/-- WhoMentionsItModel.findLeast(I)V -/
def em_107 : eM := (⟨"WhoMentionsItModel", "findLeast", "(I)V"⟩, prog_12_method_55_code, 9, ((Option.none)), 197, ec_107)
/-- WhoMentionsItModel.wordAt(II)I -/
def em_108 : eM := (⟨"WhoMentionsItModel", "wordAt", "(II)I"⟩, prog_12_method_56_code, 10, ((Option.some FieldType.int)), 145, ec_108)
/-- WhoMentionsItModel.areOx(I)Z -/
def em_109 : eM := (⟨"WhoMentionsItModel", "areOx", "(I)Z"⟩, prog_12_method_57_code, 2, ((Option.some FieldType.boolean)), 21, ec_109)
/-- WhoMentionsItModel.safely(III)I -/
def em_110 : eM := (⟨"WhoMentionsItModel", "safely", "(III)I"⟩, prog_12_method_58_code, 6, ((Option.some FieldType.int)), 111, ec_110)
/-- WhoMentionsItModel.canBe(I)Z -/
def em_111 : eM := (⟨"WhoMentionsItModel", "canBe", "(I)Z"⟩, prog_12_method_59_code, 2, ((Option.some FieldType.boolean)), 18, ec_111)
/-- WhoMentionsItModel.canNext(I)V -/
def em_112 : eM := (⟨"WhoMentionsItModel", "canNext", "(I)V"⟩, prog_12_method_60_code, 2, ((Option.none)), 11, ec_112)
/-- WhoMentionsItModel.goesOn(IIIII)V -/
def em_113 : eM := (⟨"WhoMentionsItModel", "goesOn", "(IIIII)V"⟩, prog_12_method_61_code, 11, ((Option.none)), 204, ec_113)
/-- WhoMentionsItModel.goKin(II)V -/
def em_114 : eM := (⟨"WhoMentionsItModel", "goKin", "(II)V"⟩, prog_12_method_62_code, 6, ((Option.none)), 127, ec_114)
/-- WhoMentionsItModel.pad(II)I -/
def em_115 : eM := (⟨"WhoMentionsItModel", "pad", "(II)I"⟩, prog_12_method_63_code, 5, ((Option.some FieldType.int)), 143, ec_115)
/-- WhoMentionsItModel.dangerous(II)I -/
def em_116 : eM := (⟨"WhoMentionsItModel", "dangerous", "(II)I"⟩, prog_12_method_64_code, 7, ((Option.some FieldType.int)), 116, ec_116)
/-- WhoMentionsItModel.wordFor(II)I -/
def em_117 : eM := (⟨"WhoMentionsItModel", "wordFor", "(II)I"⟩, prog_12_method_65_code, 5, ((Option.some FieldType.int)), 79, ec_117)
/-- WhoMentionsItModel.bare(I)I -/
def em_118 : eM := (⟨"WhoMentionsItModel", "bare", "(I)I"⟩, prog_12_method_66_code, 4, ((Option.some FieldType.int)), 86, ec_118)
/-- WhoMentionsItModel.sum(I)I -/
def em_119 : eM := (⟨"WhoMentionsItModel", "sum", "(I)I"⟩, prog_12_method_67_code, 2, ((Option.some FieldType.int)), 21, ec_119)
/-- WhoMentionsItModel.canOf(I)I -/
def em_120 : eM := (⟨"WhoMentionsItModel", "canOf", "(I)I"⟩, prog_12_method_68_code, 3, ((Option.some FieldType.int)), 79, ec_120)
/-- WhoMentionsItModel.can(I)I -/
def em_121 : eM := (⟨"WhoMentionsItModel", "can", "(I)I"⟩, prog_12_method_69_code, 2, ((Option.some FieldType.int)), 18, ec_121)
/-- WhoMentionsItModel.firstToGo(I)I -/
def em_122 : eM := (⟨"WhoMentionsItModel", "firstToGo", "(I)I"⟩, prog_12_method_70_code, 4, ((Option.some FieldType.int)), 86, ec_122)
/-- WhoMentionsItModel.begin(I)I -/
def em_123 : eM := (⟨"WhoMentionsItModel", "begin", "(I)I"⟩, prog_12_method_71_code, 2, ((Option.some FieldType.int)), 48, ec_123)
/-- WhoMentionsItModel.findShares()V -/
def em_124 : eM := (⟨"WhoMentionsItModel", "findShares", "()V"⟩, prog_12_method_72_code, 4, ((Option.none)), 124, ec_124)
/-- WhoMentionsItModel.treaty(II)I -/
def em_125 : eM := (⟨"WhoMentionsItModel", "treaty", "(II)I"⟩, prog_12_method_73_code, 6, ((Option.some FieldType.int)), 136, ec_125)
/-- WhoMentionsItModel.goTalk(I)V -/
def em_126 : eM := (⟨"WhoMentionsItModel", "goTalk", "(I)V"⟩, prog_12_method_74_code, 6, ((Option.none)), 170, ec_126)
/-- WhoMentionsItModel.talk(II)I -/
def em_127 : eM := (⟨"WhoMentionsItModel", "talk", "(II)I"⟩, prog_12_method_75_code, 4, ((Option.some FieldType.int)), 86, ec_127)
/-- WhoMentionsItModel.findAnswer(II)V -/
def em_128 : eM := (⟨"WhoMentionsItModel", "findAnswer", "(II)V"⟩, prog_12_method_76_code, 7, ((Option.none)), 154, ec_128)
/-- WhoMentionsItModel.ask(III)I -/
def em_129 : eM := (⟨"WhoMentionsItModel", "ask", "(III)I"⟩, prog_12_method_77_code, 4, ((Option.some FieldType.int)), 57, ec_129)
/-- WhoMentionsItModel.corner(I)I -/
def em_130 : eM := (⟨"WhoMentionsItModel", "corner", "(I)I"⟩, prog_12_method_78_code, 4, ((Option.some FieldType.int)), 49, ec_130)
/-- WhoMentionsItModel.readsNext(I)Z -/
def em_131 : eM := (⟨"WhoMentionsItModel", "readsNext", "(I)Z"⟩, prog_12_method_79_code, 3, ((Option.some FieldType.boolean)), 153, ec_131)
/-- WhoMentionsItModel.wrongMonth(II)I -/
def em_132 : eM := (⟨"WhoMentionsItModel", "wrongMonth", "(II)I"⟩, prog_12_method_80_code, 7, ((Option.some FieldType.int)), 123, ec_132)
/-- WhoMentionsItModel.judge(II)I -/
def em_133 : eM := (⟨"WhoMentionsItModel", "judge", "(II)I"⟩, prog_12_method_81_code, 4, ((Option.some FieldType.int)), 39, ec_133)
/-- WhoMentionsItModel.tooNear(II)I -/
def em_134 : eM := (⟨"WhoMentionsItModel", "tooNear", "(II)I"⟩, prog_12_method_82_code, 6, ((Option.some FieldType.int)), 76, ec_134)
/-- WhoMentionsItModel.months(III)I -/
def em_135 : eM := (⟨"WhoMentionsItModel", "months", "(III)I"⟩, prog_12_method_83_code, 5, ((Option.some FieldType.int)), 102, ec_135)
/-- WhoMentionsItModel.mayBe(II)I -/
def em_136 : eM := (⟨"WhoMentionsItModel", "mayBe", "(II)I"⟩, prog_12_method_84_code, 8, ((Option.some FieldType.int)), 124, ec_136)
/-- WhoMentionsItModel.drawn(III)I -/
def em_137 : eM := (⟨"WhoMentionsItModel", "drawn", "(III)I"⟩, prog_12_method_85_code, 10, ((Option.some FieldType.int)), 169, ec_137)
/-- WhoMentionsItModel.utter(II)I -/
def em_138 : eM := (⟨"WhoMentionsItModel", "utter", "(II)I"⟩, prog_12_method_86_code, 6, ((Option.some FieldType.int)), 165, ec_138)
/-- WhoMentionsItModel.day()I -/
def em_139 : eM := (⟨"WhoMentionsItModel", "day", "()I"⟩, prog_12_method_87_code, 1, ((Option.some FieldType.int)), 38, ec_139)
/-- WhoMentionsItModel.levy()I -/
def em_140 : eM := (⟨"WhoMentionsItModel", "levy", "()I"⟩, prog_12_method_88_code, 2, ((Option.some FieldType.int)), 18, ec_140)
/-- WhoMentionsItModel.led(I)I -/
def em_141 : eM := (⟨"WhoMentionsItModel", "led", "(I)I"⟩, prog_12_method_89_code, 2, ((Option.some FieldType.int)), 40, ec_141)
/-- WhoMentionsItModel.image()I -/
def em_142 : eM := (⟨"WhoMentionsItModel", "image", "()I"⟩, prog_12_method_90_code, 2, ((Option.some FieldType.int)), 89, ec_142)
/-- WhoMentionsItModel.back()I -/
def em_143 : eM := (⟨"WhoMentionsItModel", "back", "()I"⟩, prog_12_method_91_code, 2, ((Option.some FieldType.int)), 86, ec_143)
/-- WhoMentionsItModel.isBody(I)Z -/
def em_144 : eM := (⟨"WhoMentionsItModel", "isBody", "(I)Z"⟩, prog_12_method_92_code, 2, ((Option.some FieldType.boolean)), 12, ec_144)
/-- WhoMentionsItModel.ran(I)V -/
def em_145 : eM := (⟨"WhoMentionsItModel", "ran", "(I)V"⟩, prog_12_method_93_code, 2, ((Option.none)), 30, ec_145)
/-- WhoMentionsItModel.trace(I)I -/
def em_146 : eM := (⟨"WhoMentionsItModel", "trace", "(I)I"⟩, prog_12_method_94_code, 2, ((Option.some FieldType.int)), 29, ec_146)
/-- WhoMentionsItModel.body(I)I -/
def em_147 : eM := (⟨"WhoMentionsItModel", "body", "(I)I"⟩, prog_12_method_95_code, 2, ((Option.some FieldType.int)), 51, ec_147)
/-- WhoMentionsItModel.isUnder(II)Z -/
def em_148 : eM := (⟨"WhoMentionsItModel", "isUnder", "(II)Z"⟩, prog_12_method_96_code, 2, ((Option.some FieldType.boolean)), 62, ec_148)
/-- WhoMentionsItModel.plainSays(II)I -/
def em_149 : eM := (⟨"WhoMentionsItModel", "plainSays", "(II)I"⟩, prog_12_method_97_code, 3, ((Option.some FieldType.int)), 9, ec_149)
/-- WhoMentionsItModel.foreignSays(II)I -/
def em_150 : eM := (⟨"WhoMentionsItModel", "foreignSays", "(II)I"⟩, prog_12_method_98_code, 3, ((Option.some FieldType.int)), 15, ec_150)
/-- WhoMentionsItModel.saying(II)I -/
def em_151 : eM := (⟨"WhoMentionsItModel", "saying", "(II)I"⟩, prog_12_method_99_code, 3, ((Option.some FieldType.int)), 81, ec_151)
/-- WhoMentionsItModel.plainNears(II)I -/
def em_152 : eM := (⟨"WhoMentionsItModel", "plainNears", "(II)I"⟩, prog_12_method_100_code, 3, ((Option.some FieldType.int)), 15, ec_152)
/-- WhoMentionsItModel.stammerNears(II)I -/
def em_153 : eM := (⟨"WhoMentionsItModel", "stammerNears", "(II)I"⟩, prog_12_method_101_code, 3, ((Option.some FieldType.int)), 14, ec_153)
/-- WhoMentionsItModel.nearing(II)I -/
def em_154 : eM := (⟨"WhoMentionsItModel", "nearing", "(II)I"⟩, prog_12_method_102_code, 4, ((Option.some FieldType.int)), 87, ec_154)
/-- WhoMentionsItModel.plainPays(II)I -/
def em_155 : eM := (⟨"WhoMentionsItModel", "plainPays", "(II)I"⟩, prog_12_method_103_code, 3, ((Option.some FieldType.int)), 10, ec_155)
/-- WhoMentionsItModel.songPays(II)I -/
def em_156 : eM := (⟨"WhoMentionsItModel", "songPays", "(II)I"⟩, prog_12_method_104_code, 3, ((Option.some FieldType.int)), 15, ec_156)
/-- WhoMentionsItModel.paying(II)I -/
def em_157 : eM := (⟨"WhoMentionsItModel", "paying", "(II)I"⟩, prog_12_method_105_code, 4, ((Option.some FieldType.int)), 58, ec_157)
/-- WhoMentionsItModel.plainTells(II)I -/
def em_158 : eM := (⟨"WhoMentionsItModel", "plainTells", "(II)I"⟩, prog_12_method_106_code, 4, ((Option.some FieldType.int)), 21, ec_158)
/-- WhoMentionsItModel.telling(II)I -/
def em_159 : eM := (⟨"WhoMentionsItModel", "telling", "(II)I"⟩, prog_12_method_107_code, 3, ((Option.some FieldType.int)), 57, ec_159)
/-- WhoMentionsItModel.act(III)I -/
def em_160 : eM := (⟨"WhoMentionsItModel", "act", "(III)I"⟩, prog_12_method_108_code, 4, ((Option.some FieldType.int)), 72, ec_160)
/-- WhoMentionsItModel.count(I)I -/
def em_161 : eM := (⟨"WhoMentionsItModel", "count", "(I)I"⟩, prog_12_method_109_code, 2, ((Option.some FieldType.int)), 72, ec_161)
/-- WhoMentionsItModel.isShelf(I)Z -/
def em_162 : eM := (⟨"WhoMentionsItModel", "isShelf", "(I)Z"⟩, prog_12_method_110_code, 1, ((Option.some FieldType.boolean)), 7, ec_162)
/-- WhoMentionsItModel.keep(II)I -/
def em_163 : eM := (⟨"WhoMentionsItModel", "keep", "(II)I"⟩, prog_12_method_111_code, 3, ((Option.some FieldType.int)), 31, ec_163)
/-- WhoMentionsItModel.row(III)I -/
def em_164 : eM := (⟨"WhoMentionsItModel", "row", "(III)I"⟩, prog_12_method_112_code, 5, ((Option.some FieldType.int)), 82, ec_164)
/-- WhoMentionsItModel.whyNoPlace(II)I -/
def em_165 : eM := (⟨"WhoMentionsItModel", "whyNoPlace", "(II)I"⟩, prog_12_method_113_code, 3, ((Option.some FieldType.int)), 57, ec_165)
/-- WhoMentionsItModel.put(IIJ)I -/
def em_166 : eM := (⟨"WhoMentionsItModel", "put", "(IIJ)I"⟩, prog_12_method_114_code, 7, ((Option.some FieldType.int)), 98, ec_166)
/-- WhoMentionsItModel.element(II)J -/
def em_167 : eM := (⟨"WhoMentionsItModel", "element", "(II)J"⟩, prog_12_method_115_code, 3, ((Option.some FieldType.long)), 27, ec_167)
/-- WhoMentionsItModel.shift(IIIII)I -/
def em_168 : eM := (⟨"WhoMentionsItModel", "shift", "(IIIII)I"⟩, prog_12_method_116_code, 7, ((Option.some FieldType.int)), 188, ec_168)
/-- WhoMentionsItModel.taken(II)I -/
def em_169 : eM := (⟨"WhoMentionsItModel", "taken", "(II)I"⟩, prog_12_method_117_code, 3, ((Option.some FieldType.int)), 76, ec_169)
/-- WhoMentionsIt$Bodies.<init>()V -/
def em_170 : eM := (⟨"WhoMentionsIt$Bodies", "<init>", "()V"⟩, prog_2_method_1_code, 1, ((Option.none)), 21, ec_170)
/-- WhoMentionsIt$Bodies.isKind(I)Z -/
def em_171 : eM := (⟨"WhoMentionsIt$Bodies", "isKind", "(I)Z"⟩, prog_2_method_2_code, 1, ((Option.some FieldType.boolean)), 16, ec_171)
/-- WhoMentionsIt$Bodies.isUnder(II)Z -/
def em_172 : eM := (⟨"WhoMentionsIt$Bodies", "isUnder", "(II)Z"⟩, prog_2_method_3_code, 4, ((Option.some FieldType.boolean)), 45, ec_172)
/-- WhoMentionsIt$Bodies.has(I)Z -/
def em_173 : eM := (⟨"WhoMentionsIt$Bodies", "has", "(I)Z"⟩, prog_2_method_4_code, 2, ((Option.some FieldType.boolean)), 18, ec_173)
/-- WhoMentionsIt$Bodies.hasTrace(I)Z -/
def em_174 : eM := (⟨"WhoMentionsIt$Bodies", "hasTrace", "(I)Z"⟩, prog_2_method_5_code, 2, ((Option.some FieldType.boolean)), 24, ec_174)
/-- WhoMentionsIt$Bodies.kindOf(I)I -/
def em_175 : eM := (⟨"WhoMentionsIt$Bodies", "kindOf", "(I)I"⟩, prog_2_method_6_code, 2, ((Option.some FieldType.int)), 19, ec_175)
/-- WhoMentionsIt$Bodies.add(I)I -/
def em_176 : eM := (⟨"WhoMentionsIt$Bodies", "add", "(I)I"⟩, prog_2_method_7_code, 2, ((Option.some FieldType.int)), 39, ec_176)
/-- WhoMentionsIt$Bodies.start(III)I -/
def em_177 : eM := (⟨"WhoMentionsIt$Bodies", "start", "(III)I"⟩, prog_2_method_8_code, 4, ((Option.some FieldType.int)), 51, ec_177)
/-- WhoMentionsIt$Bodies.from(IIII)I -/
def em_178 : eM := (⟨"WhoMentionsIt$Bodies", "from", "(IIII)I"⟩, prog_2_method_9_code, 7, ((Option.some FieldType.int)), 87, ec_178)
/-- WhoMentionsIt$Bodies.run(III)I -/
def em_179 : eM := (⟨"WhoMentionsIt$Bodies", "run", "(III)I"⟩, prog_2_method_10_code, 4, ((Option.some FieldType.int)), 337, ec_179)
/-- WhoMentionsIt$Care.<init>(LWhoMentionsIt$Numbers;LWhoMentionsIt$Speech;)V -/
def em_180 : eM := (⟨"WhoMentionsIt$Care", "<init>", "(LWhoMentionsIt$Numbers;LWhoMentionsIt$Speech;)V"⟩, prog_3_method_1_code, 3, ((Option.none)), 50, ec_180)
/-- WhoMentionsIt$Care.readKins(LWhoMentionsIt$Shelf;I)V -/
def em_181 : eM := (⟨"WhoMentionsIt$Care", "readKins", "(LWhoMentionsIt$Shelf;I)V"⟩, prog_3_method_2_code, 5, ((Option.none)), 71, ec_181)
/-- WhoMentionsIt$Care.isKin(I)Z -/
def em_182 : eM := (⟨"WhoMentionsIt$Care", "isKin", "(I)Z"⟩, prog_3_method_3_code, 1, ((Option.some FieldType.boolean)), 16, ec_182)
/-- WhoMentionsIt$Care.layOut()V -/
def em_183 : eM := (⟨"WhoMentionsIt$Care", "layOut", "()V"⟩, prog_3_method_4_code, 4, ((Option.none)), 52, ec_183)
/-- WhoMentionsIt$Care.bsAt(I)I -/
def em_184 : eM := (⟨"WhoMentionsIt$Care", "bsAt", "(I)I"⟩, prog_3_method_5_code, 4, ((Option.some FieldType.int)), 67, ec_184)
/-- WhoMentionsIt$Care.layOutFrom(II)V -/
def em_185 : eM := (⟨"WhoMentionsIt$Care", "layOutFrom", "(II)V"⟩, prog_3_method_6_code, 10, ((Option.none)), 192, ec_185)
/-- WhoMentionsIt$Care.roomFor(III)I -/
def em_186 : eM := (⟨"WhoMentionsIt$Care", "roomFor", "(III)I"⟩, prog_3_method_7_code, 4, ((Option.some FieldType.int)), 52, ec_186)
/-- WhoMentionsIt$Care.shortestLength()I -/
def em_187 : eM := (⟨"WhoMentionsIt$Care", "shortestLength", "()I"⟩, prog_3_method_8_code, 2, ((Option.some FieldType.int)), 29, ec_187)
/-- WhoMentionsIt$Care.shortestWord(I)I -/
def em_188 : eM := (⟨"WhoMentionsIt$Care", "shortestWord", "(I)I"⟩, prog_3_method_9_code, 7, ((Option.some FieldType.int)), 101, ec_188)
/-- WhoMentionsIt$Care.firstThatFits(IIII)I -/
def em_189 : eM := (⟨"WhoMentionsIt$Care", "firstThatFits", "(IIII)I"⟩, prog_3_method_10_code, 7, ((Option.some FieldType.int)), 87, ec_189)
/-- WhoMentionsIt$Care.runBehind(IIII)I -/
def em_190 : eM := (⟨"WhoMentionsIt$Care", "runBehind", "(IIII)I"⟩, prog_3_method_11_code, 5, ((Option.some FieldType.int)), 18, ec_190)
/-- WhoMentionsIt$Care.bBehind(II)I -/
def em_191 : eM := (⟨"WhoMentionsIt$Care", "bBehind", "(II)I"⟩, prog_3_method_12_code, 3, ((Option.some FieldType.int)), 40, ec_191)
/-- WhoMentionsIt$Care.fewestPutIn()I -/
def em_192 : eM := (⟨"WhoMentionsIt$Care", "fewestPutIn", "()I"⟩, prog_3_method_13_code, 4, ((Option.some FieldType.int)), 133, ec_192)
/-- WhoMentionsIt$Care.goDirectly(II)V -/
def em_193 : eM := (⟨"WhoMentionsIt$Care", "goDirectly", "(II)V"⟩, prog_3_method_14_code, 6, ((Option.none)), 109, ec_193)
/-- WhoMentionsIt$Care.goWithOnePutIn(II)V -/
def em_194 : eM := (⟨"WhoMentionsIt$Care", "goWithOnePutIn", "(II)V"⟩, prog_3_method_15_code, 7, ((Option.none)), 168, ec_194)
/-- WhoMentionsIt$Care.leastRun(I)I -/
def em_195 : eM := (⟨"WhoMentionsIt$Care", "leastRun", "(I)I"⟩, prog_3_method_16_code, 4, ((Option.some FieldType.int)), 40, ec_195)
/-- WhoMentionsIt$Care.clearNext()V -/
def em_196 : eM := (⟨"WhoMentionsIt$Care", "clearNext", "()V"⟩, prog_3_method_17_code, 2, ((Option.none)), 26, ec_196)
/-- WhoMentionsIt$Care.offer(III)V -/
def em_197 : eM := (⟨"WhoMentionsIt$Care", "offer", "(III)V"⟩, prog_3_method_18_code, 5, ((Option.none)), 46, ec_197)
/-- WhoMentionsIt$Care.fewestReached()I -/
def em_198 : eM := (⟨"WhoMentionsIt$Care", "fewestReached", "()I"⟩, prog_3_method_19_code, 2, ((Option.some FieldType.int)), 38, ec_198)
/-- WhoMentionsIt$Changes.<init>(LWhoMentionsIt$Numbers;)V -/
def em_199 : eM := (⟨"WhoMentionsIt$Changes", "<init>", "(LWhoMentionsIt$Numbers;)V"⟩, prog_4_method_1_code, 2, ((Option.none)), 42, ec_199)
/-- WhoMentionsIt$Changes.make(III)V -/
def em_200 : eM := (⟨"WhoMentionsIt$Changes", "make", "(III)V"⟩, prog_4_method_2_code, 5, ((Option.none)), 102, ec_200)
/-- WhoMentionsIt$Changes.forgetOldest()V -/
def em_201 : eM := (⟨"WhoMentionsIt$Changes", "forgetOldest", "()V"⟩, prog_4_method_3_code, 1, ((Option.none)), 67, ec_201)
/-- WhoMentionsIt$Changes.takeBack()I -/
def em_202 : eM := (⟨"WhoMentionsIt$Changes", "takeBack", "()I"⟩, prog_4_method_4_code, 1, ((Option.some FieldType.int)), 61, ec_202)
/-- WhoMentionsIt$Changes.doAgain()I -/
def em_203 : eM := (⟨"WhoMentionsIt$Changes", "doAgain", "()I"⟩, prog_4_method_5_code, 1, ((Option.some FieldType.int)), 61, ec_203)
/-- WhoMentionsIt$Deeds.<init>(LWhoMentionsIt$Numbers;)V -/
def em_204 : eM := (⟨"WhoMentionsIt$Deeds", "<init>", "(LWhoMentionsIt$Numbers;)V"⟩, prog_5_method_1_code, 2, ((Option.none)), 42, ec_204)
/-- WhoMentionsIt$Deeds.saying(II)I -/
def em_205 : eM := (⟨"WhoMentionsIt$Deeds", "saying", "(II)I"⟩, prog_5_method_2_code, 5, ((Option.some FieldType.int)), 115, ec_205)
/-- WhoMentionsIt$Deeds.passDay()I -/
def em_206 : eM := (⟨"WhoMentionsIt$Deeds", "passDay", "()I"⟩, prog_5_method_3_code, 1, ((Option.some FieldType.int)), 27, ec_206)
/-- WhoMentionsIt$Deeds.startLevy()I -/
def em_207 : eM := (⟨"WhoMentionsIt$Deeds", "startLevy", "()I"⟩, prog_5_method_4_code, 2, ((Option.some FieldType.int)), 24, ec_207)
/-- WhoMentionsIt$Deeds.keepImage()V -/
def em_208 : eM := (⟨"WhoMentionsIt$Deeds", "keepImage", "()V"⟩, prog_5_method_5_code, 1, ((Option.none)), 57, ec_208)
/-- WhoMentionsIt$Deeds.layBack()V -/
def em_209 : eM := (⟨"WhoMentionsIt$Deeds", "layBack", "()V"⟩, prog_5_method_6_code, 1, ((Option.none)), 41, ec_209)
/-- WhoMentionsIt$Law.<init>()V -/
def em_210 : eM := (⟨"WhoMentionsIt$Law", "<init>", "()V"⟩, prog_6_method_1_code, 1, ((Option.none)), 23, ec_210)
/-- WhoMentionsIt$Law.become([II)V -/
def em_211 : eM := (⟨"WhoMentionsIt$Law", "become", "([II)V"⟩, prog_6_method_2_code, 3, ((Option.none)), 26, ec_211)
/-- WhoMentionsIt$Law.hasText()Z -/
def em_212 : eM := (⟨"WhoMentionsIt$Law", "hasText", "()Z"⟩, prog_6_method_3_code, 1, ((Option.some FieldType.boolean)), 13, ec_212)
/-- WhoMentionsIt$Law.wordIs(III)V -/
def em_213 : eM := (⟨"WhoMentionsIt$Law", "wordIs", "(III)V"⟩, prog_6_method_4_code, 4, ((Option.none)), 16, ec_213)
/-- WhoMentionsIt$Law.sayingIs(III)V -/
def em_214 : eM := (⟨"WhoMentionsIt$Law", "sayingIs", "(III)V"⟩, prog_6_method_5_code, 4, ((Option.none)), 16, ec_214)
/-- WhoMentionsIt$Law.worth()I -/
def em_215 : eM := (⟨"WhoMentionsIt$Law", "worth", "()I"⟩, prog_6_method_6_code, 5, ((Option.some FieldType.int)), 290, ec_215)
/-- WhoMentionsIt$Law.isName(I)Z -/
def em_216 : eM := (⟨"WhoMentionsIt$Law", "isName", "(I)Z"⟩, prog_6_method_7_code, 1, ((Option.some FieldType.boolean)), 42, ec_216)
/-- WhoMentionsIt$Law.named(I)I -/
def em_217 : eM := (⟨"WhoMentionsIt$Law", "named", "(I)I"⟩, prog_6_method_8_code, 2, ((Option.some FieldType.int)), 106, ec_217)
/-- WhoMentionsIt$Law.joined(III)I -/
def em_218 : eM := (⟨"WhoMentionsIt$Law", "joined", "(III)I"⟩, prog_6_method_9_code, 3, ((Option.some FieldType.int)), 217, ec_218)
/-- WhoMentionsIt$LawText.<init>()V -/
def em_219 : eM := (⟨"WhoMentionsIt$LawText", "<init>", "()V"⟩, prog_7_method_1_code, 1, ((Option.none)), 22, ec_219)
/-- WhoMentionsIt$LawText.append(I)I -/
def em_220 : eM := (⟨"WhoMentionsIt$LawText", "append", "(I)I"⟩, prog_7_method_2_code, 2, ((Option.some FieldType.int)), 37, ec_220)
/-- WhoMentionsIt$LawText.read()I -/
def em_221 : eM := (⟨"WhoMentionsIt$LawText", "read", "()I"⟩, prog_7_method_3_code, 2, ((Option.some FieldType.int)), 108, ec_221)
/-- WhoMentionsIt$LawText.readLine()V -/
def em_222 : eM := (⟨"WhoMentionsIt$LawText", "readLine", "()V"⟩, prog_7_method_4_code, 2, ((Option.none)), 91, ec_222)
/-- WhoMentionsIt$LawText.readEither(I)V -/
def em_223 : eM := (⟨"WhoMentionsIt$LawText", "readEither", "(I)V"⟩, prog_7_method_5_code, 3, ((Option.none)), 58, ec_223)
/-- WhoMentionsIt$LawText.readBoth(I)V -/
def em_224 : eM := (⟨"WhoMentionsIt$LawText", "readBoth", "(I)V"⟩, prog_7_method_6_code, 3, ((Option.none)), 58, ec_224)
/-- WhoMentionsIt$LawText.readComparison(I)V -/
def em_225 : eM := (⟨"WhoMentionsIt$LawText", "readComparison", "(I)V"⟩, prog_7_method_7_code, 3, ((Option.none)), 58, ec_225)
/-- WhoMentionsIt$LawText.readSum(I)V -/
def em_226 : eM := (⟨"WhoMentionsIt$LawText", "readSum", "(I)V"⟩, prog_7_method_8_code, 4, ((Option.none)), 72, ec_226)
/-- WhoMentionsIt$LawText.readProduct(I)V -/
def em_227 : eM := (⟨"WhoMentionsIt$LawText", "readProduct", "(I)V"⟩, prog_7_method_9_code, 4, ((Option.none)), 64, ec_227)
/-- WhoMentionsIt$LawText.isProductSign(I)Z -/
def em_228 : eM := (⟨"WhoMentionsIt$LawText", "isProductSign", "(I)Z"⟩, prog_7_method_10_code, 1, ((Option.some FieldType.boolean)), 24, ec_228)
/-- WhoMentionsIt$LawText.readOperand(I)V -/
def em_229 : eM := (⟨"WhoMentionsIt$LawText", "readOperand", "(I)V"⟩, prog_7_method_11_code, 3, ((Option.none)), 155, ec_229)
/-- WhoMentionsIt$LawText.readClosing()V -/
def em_230 : eM := (⟨"WhoMentionsIt$LawText", "readClosing", "()V"⟩, prog_7_method_12_code, 1, ((Option.none)), 40, ec_230)
/-- WhoMentionsIt$LawText.readNumber()V -/
def em_231 : eM := (⟨"WhoMentionsIt$LawText", "readNumber", "()V"⟩, prog_7_method_13_code, 3, ((Option.none)), 54, ec_231)
/-- WhoMentionsIt$LawText.isDigit(I)Z -/
def em_232 : eM := (⟨"WhoMentionsIt$LawText", "isDigit", "(I)Z"⟩, prog_7_method_14_code, 1, ((Option.some FieldType.boolean)), 18, ec_232)
/-- WhoMentionsIt$LawText.next()I -/
def em_233 : eM := (⟨"WhoMentionsIt$LawText", "next", "()I"⟩, prog_7_method_15_code, 1, ((Option.some FieldType.int)), 34, ec_233)
/-- WhoMentionsIt$LawText.emit(I)V -/
def em_234 : eM := (⟨"WhoMentionsIt$LawText", "emit", "(I)V"⟩, prog_7_method_16_code, 2, ((Option.none)), 33, ec_234)
/-- WhoMentionsIt$Numbers.<init>()V -/
def em_235 : eM := (⟨"WhoMentionsIt$Numbers", "<init>", "()V"⟩, prog_8_method_1_code, 1, ((Option.none)), 60, ec_235)
/-- WhoMentionsIt$Numbers.isWord(I)Z -/
def em_236 : eM := (⟨"WhoMentionsIt$Numbers", "isWord", "(I)Z"⟩, prog_8_method_2_code, 2, ((Option.some FieldType.boolean)), 18, ec_236)
/-- WhoMentionsIt$Numbers.isPerson(I)Z -/
def em_237 : eM := (⟨"WhoMentionsIt$Numbers", "isPerson", "(I)Z"⟩, prog_8_method_3_code, 2, ((Option.some FieldType.boolean)), 18, ec_237)
/-- WhoMentionsIt$Numbers.has(II)Z -/
def em_238 : eM := (⟨"WhoMentionsIt$Numbers", "has", "(II)Z"⟩, prog_8_method_4_code, 3, ((Option.some FieldType.boolean)), 48, ec_238)
/-- WhoMentionsIt$Numbers.allows(II)Z -/
def em_239 : eM := (⟨"WhoMentionsIt$Numbers", "allows", "(II)Z"⟩, prog_8_method_5_code, 3, ((Option.some FieldType.boolean)), 24, ec_239)
/-- WhoMentionsIt$Numbers.mayBeWord(III)Z -/
def em_240 : eM := (⟨"WhoMentionsIt$Numbers", "mayBeWord", "(III)Z"⟩, prog_8_method_6_code, 4, ((Option.some FieldType.boolean)), 33, ec_240)
/-- WhoMentionsIt$Numbers.addWord(III)I -/
def em_241 : eM := (⟨"WhoMentionsIt$Numbers", "addWord", "(III)I"⟩, prog_8_method_7_code, 4, ((Option.some FieldType.int)), 65, ec_241)
/-- WhoMentionsIt$Numbers.addPerson(I)I -/
def em_242 : eM := (⟨"WhoMentionsIt$Numbers", "addPerson", "(I)I"⟩, prog_8_method_8_code, 2, ((Option.some FieldType.int)), 66, ec_242)
/-- WhoMentionsIt$Numbers.near(I)I -/
def em_243 : eM := (⟨"WhoMentionsIt$Numbers", "near", "(I)I"⟩, prog_8_method_9_code, 2, ((Option.some FieldType.int)), 9, ec_243)
/-- WhoMentionsIt$Numbers.kin(I)I -/
def em_244 : eM := (⟨"WhoMentionsIt$Numbers", "kin", "(I)I"⟩, prog_8_method_10_code, 2, ((Option.some FieldType.int)), 9, ec_244)
/-- WhoMentionsIt$Numbers.size(I)I -/
def em_245 : eM := (⟨"WhoMentionsIt$Numbers", "size", "(I)I"⟩, prog_8_method_11_code, 2, ((Option.some FieldType.int)), 9, ec_245)
/-- WhoMentionsIt$Numbers.bound()I -/
def em_246 : eM := (⟨"WhoMentionsIt$Numbers", "bound", "()I"⟩, prog_8_method_12_code, 1, ((Option.some FieldType.int)), 10, ec_246)
/-- WhoMentionsIt$Numbers.wordsOfKin(I)I -/
def em_247 : eM := (⟨"WhoMentionsIt$Numbers", "wordsOfKin", "(I)I"⟩, prog_8_method_13_code, 4, ((Option.some FieldType.int)), 39, ec_247)
/-- WhoMentionsIt$Numbers.level(I)I -/
def em_248 : eM := (⟨"WhoMentionsIt$Numbers", "level", "(I)I"⟩, prog_8_method_14_code, 2, ((Option.some FieldType.int)), 31, ec_248)
/-- WhoMentionsIt$Numbers.sumOn(I)I -/
def em_249 : eM := (⟨"WhoMentionsIt$Numbers", "sumOn", "(I)I"⟩, prog_8_method_15_code, 2, ((Option.some FieldType.int)), 31, ec_249)
/-- WhoMentionsIt$Numbers.isHeard(I)Z -/
def em_250 : eM := (⟨"WhoMentionsIt$Numbers", "isHeard", "(I)Z"⟩, prog_8_method_16_code, 3, ((Option.some FieldType.boolean)), 40, ec_250)
/-- WhoMentionsIt$Numbers.owed(III)I -/
def em_251 : eM := (⟨"WhoMentionsIt$Numbers", "owed", "(III)I"⟩, prog_8_method_17_code, 4, ((Option.some FieldType.int)), 35, ec_251)
/-- WhoMentionsIt$Numbers.shareOf(I)I -/
def em_252 : eM := (⟨"WhoMentionsIt$Numbers", "shareOf", "(I)I"⟩, prog_8_method_18_code, 5, ((Option.some FieldType.int)), 112, ec_252)
/-- WhoMentionsIt$Numbers.partOf(II)I -/
def em_253 : eM := (⟨"WhoMentionsIt$Numbers", "partOf", "(II)I"⟩, prog_8_method_19_code, 3, ((Option.some FieldType.int)), 29, ec_253)
/-- WhoMentionsIt$Shelf.<init>()V -/
def em_254 : eM := (⟨"WhoMentionsIt$Shelf", "<init>", "()V"⟩, prog_9_method_1_code, 1, ((Option.none)), 13, ec_254)
/-- WhoMentionsIt$Shelf.empty()V -/
def em_255 : eM := (⟨"WhoMentionsIt$Shelf", "empty", "()V"⟩, prog_9_method_2_code, 1, ((Option.none)), 6, ec_255)
/-- WhoMentionsIt$Shelf.holdBody(I)V -/
def em_256 : eM := (⟨"WhoMentionsIt$Shelf", "holdBody", "(I)V"⟩, prog_9_method_3_code, 2, ((Option.none)), 11, ec_256)
/-- WhoMentionsIt$Shelf.holdRow(II)V -/
def em_257 : eM := (⟨"WhoMentionsIt$Shelf", "holdRow", "(II)V"⟩, prog_9_method_4_code, 4, ((Option.none)), 37, ec_257)
/-- WhoMentionsIt$Shelf.isRowOf(I)Z -/
def em_258 : eM := (⟨"WhoMentionsIt$Shelf", "isRowOf", "(I)Z"⟩, prog_9_method_5_code, 2, ((Option.some FieldType.boolean)), 22, ec_258)
/-- WhoMentionsIt$Shelf.refusal(I)I -/
def em_259 : eM := (⟨"WhoMentionsIt$Shelf", "refusal", "(I)I"⟩, prog_9_method_6_code, 2, ((Option.some FieldType.int)), 27, ec_259)
/-- WhoMentionsIt$Shelf.refusalAt(I)I -/
def em_260 : eM := (⟨"WhoMentionsIt$Shelf", "refusalAt", "(I)I"⟩, prog_9_method_7_code, 2, ((Option.some FieldType.int)), 42, ec_260)
/-- WhoMentionsIt$Shelf.hasPlaces(II)Z -/
def em_261 : eM := (⟨"WhoMentionsIt$Shelf", "hasPlaces", "(II)Z"⟩, prog_9_method_8_code, 3, ((Option.some FieldType.boolean)), 32, ec_261)
/-- WhoMentionsIt$Shelf.set(IJ)V -/
def em_262 : eM := (⟨"WhoMentionsIt$Shelf", "set", "(IJ)V"⟩, prog_9_method_9_code, 4, ((Option.none)), 106, ec_262)
/-- WhoMentionsIt$Shelf.number(I)I -/
def em_263 : eM := (⟨"WhoMentionsIt$Shelf", "number", "(I)I"⟩, prog_9_method_10_code, 2, ((Option.some FieldType.int)), 25, ec_263)
/-- WhoMentionsIt$Speech.<init>(LWhoMentionsIt$Numbers;LWhoMentionsIt$Law;)V -/
def em_264 : eM := (⟨"WhoMentionsIt$Speech", "<init>", "(LWhoMentionsIt$Numbers;LWhoMentionsIt$Law;)V"⟩, prog_10_method_1_code, 3, ((Option.none)), 32, ec_264)
/-- WhoMentionsIt$Speech.speakerIs(I)V -/
def em_265 : eM := (⟨"WhoMentionsIt$Speech", "speakerIs", "(I)V"⟩, prog_10_method_2_code, 2, ((Option.none)), 26, ec_265)
/-- WhoMentionsIt$Speech.gift(III)I -/
def em_266 : eM := (⟨"WhoMentionsIt$Speech", "gift", "(III)I"⟩, prog_10_method_3_code, 7, ((Option.some FieldType.int)), 165, ec_266)
/-- WhoMentionsIt$Speech.bOf(II)I -/
def em_267 : eM := (⟨"WhoMentionsIt$Speech", "bOf", "(II)I"⟩, prog_10_method_4_code, 3, ((Option.some FieldType.int)), 32, ec_267)
/-- WhoMentionsIt$Speech.giftAt(I)I -/
def em_268 : eM := (⟨"WhoMentionsIt$Speech", "giftAt", "(I)I"⟩, prog_10_method_5_code, 2, ((Option.some FieldType.int)), 38, ec_268)
/-- WhoMentionsIt$Speech.nearness()I -/
def em_269 : eM := (⟨"WhoMentionsIt$Speech", "nearness", "()I"⟩, prog_10_method_6_code, 3, ((Option.some FieldType.int)), 52, ec_269)
/-- WhoMentionsIt$Speech.runBehind(I)I -/
def em_270 : eM := (⟨"WhoMentionsIt$Speech", "runBehind", "(I)I"⟩, prog_10_method_7_code, 3, ((Option.some FieldType.int)), 56, ec_270)
/-- WhoMentionsIt$Speech.placeBehindWhich(I)I -/
def em_271 : eM := (⟨"WhoMentionsIt$Speech", "placeBehindWhich", "(I)I"⟩, prog_10_method_8_code, 3, ((Option.some FieldType.int)), 52, ec_271)
/-- WhoMentionsIt$Speech.aloneNearness(I)I -/
def em_272 : eM := (⟨"WhoMentionsIt$Speech", "aloneNearness", "(I)I"⟩, prog_10_method_9_code, 2, ((Option.some FieldType.int)), 12, ec_272)
/-- WhoMentionsIt$Speech.pairNearness(II)I -/
def em_273 : eM := (⟨"WhoMentionsIt$Speech", "pairNearness", "(II)I"⟩, prog_10_method_10_code, 4, ((Option.some FieldType.int)), 25, ec_273)
/-- WhoMentionsIt$Speech.safestAnswer(I)I -/
def em_274 : eM := (⟨"WhoMentionsIt$Speech", "safestAnswer", "(I)I"⟩, prog_10_method_11_code, 7, ((Option.some FieldType.int)), 109, ec_274)
/-- WhoMentionsIt$Speech.append(I)V -/
def em_275 : eM := (⟨"WhoMentionsIt$Speech", "append", "(I)V"⟩, prog_10_method_12_code, 2, ((Option.none)), 33, ec_275)
/-- WhoMentionsIt$Speech.wordBits()I -/
def em_276 : eM := (⟨"WhoMentionsIt$Speech", "wordBits", "()I"⟩, prog_10_method_13_code, 3, ((Option.some FieldType.int)), 31, ec_276)
/-- WhoMentionsIt$Speech.goesOn(I)Z -/
def em_277 : eM := (⟨"WhoMentionsIt$Speech", "goesOn", "(I)Z"⟩, prog_10_method_14_code, 2, ((Option.some FieldType.boolean)), 22, ec_277)
/-- WhoMentionsIt$Speech.readSentence(LWhoMentionsIt$Shelf;)V -/
def em_278 : eM := (⟨"WhoMentionsIt$Speech", "readSentence", "(LWhoMentionsIt$Shelf;)V"⟩, prog_10_method_15_code, 4, ((Option.none)), 53, ec_278)
/-- WhoMentionsIt$Speech.readMonth(LWhoMentionsIt$Shelf;I)I -/
def em_279 : eM := (⟨"WhoMentionsIt$Speech", "readMonth", "(LWhoMentionsIt$Shelf;I)I"⟩, prog_10_method_16_code, 5, ((Option.some FieldType.int)), 61, ec_279)
/-- WhoMentionsItLaw.law([I)Z -/
def em_280 : eM := (x, code, maxLocals, (some .boolean), 1547, ec_280)
def eMT (mi : Nat) : Option eM := @Bool.rec (fun _ => Option eM)
 (@Bool.rec (fun _ => Option eM)
  (@Bool.rec (fun _ => Option eM)
   (@Bool.rec (fun _ => Option eM)
    (@Bool.rec (fun _ => Option eM)
     (@Bool.rec (fun _ => Option eM)
      (@Bool.rec (fun _ => Option eM)
       (@Bool.rec (fun _ => Option eM)
        (@Bool.rec (fun _ => Option eM)
         (@Bool.rec (fun _ => Option eM) none (some em_280) (Nat.beq mi 280))
         (@Bool.rec (fun _ => Option eM) none (some em_279) (Nat.beq mi 279)) (Nat.blt mi 280))
        (@Bool.rec (fun _ => Option eM) none (some em_278) (Nat.beq mi 278)) (Nat.blt mi 279))
       (@Bool.rec (fun _ => Option eM)
        (@Bool.rec (fun _ => Option eM) none (some em_277) (Nat.beq mi 277))
        (@Bool.rec (fun _ => Option eM) none (some em_276) (Nat.beq mi 276)) (Nat.blt mi 277)) (Nat.blt mi 278))
      (@Bool.rec (fun _ => Option eM)
       (@Bool.rec (fun _ => Option eM)
        (@Bool.rec (fun _ => Option eM) none (some em_275) (Nat.beq mi 275))
        (@Bool.rec (fun _ => Option eM) none (some em_274) (Nat.beq mi 274)) (Nat.blt mi 275))
       (@Bool.rec (fun _ => Option eM)
        (@Bool.rec (fun _ => Option eM) none (some em_273) (Nat.beq mi 273))
        (@Bool.rec (fun _ => Option eM) none (some em_272) (Nat.beq mi 272)) (Nat.blt mi 273)) (Nat.blt mi 274)) (Nat.blt mi 276))
     (@Bool.rec (fun _ => Option eM)
      (@Bool.rec (fun _ => Option eM)
       (@Bool.rec (fun _ => Option eM)
        (@Bool.rec (fun _ => Option eM)
         (@Bool.rec (fun _ => Option eM) none (some em_271) (Nat.beq mi 271))
         (@Bool.rec (fun _ => Option eM) none (some em_270) (Nat.beq mi 270)) (Nat.blt mi 271))
        (@Bool.rec (fun _ => Option eM) none (some em_269) (Nat.beq mi 269)) (Nat.blt mi 270))
       (@Bool.rec (fun _ => Option eM)
        (@Bool.rec (fun _ => Option eM) none (some em_268) (Nat.beq mi 268))
        (@Bool.rec (fun _ => Option eM) none (some em_267) (Nat.beq mi 267)) (Nat.blt mi 268)) (Nat.blt mi 269))
      (@Bool.rec (fun _ => Option eM)
       (@Bool.rec (fun _ => Option eM)
        (@Bool.rec (fun _ => Option eM) none (some em_266) (Nat.beq mi 266))
        (@Bool.rec (fun _ => Option eM) none (some em_265) (Nat.beq mi 265)) (Nat.blt mi 266))
       (@Bool.rec (fun _ => Option eM)
        (@Bool.rec (fun _ => Option eM) none (some em_264) (Nat.beq mi 264))
        (@Bool.rec (fun _ => Option eM) none (some em_263) (Nat.beq mi 263)) (Nat.blt mi 264)) (Nat.blt mi 265)) (Nat.blt mi 267)) (Nat.blt mi 272))
    (@Bool.rec (fun _ => Option eM)
     (@Bool.rec (fun _ => Option eM)
      (@Bool.rec (fun _ => Option eM)
       (@Bool.rec (fun _ => Option eM)
        (@Bool.rec (fun _ => Option eM)
         (@Bool.rec (fun _ => Option eM) none (some em_262) (Nat.beq mi 262))
         (@Bool.rec (fun _ => Option eM) none (some em_261) (Nat.beq mi 261)) (Nat.blt mi 262))
        (@Bool.rec (fun _ => Option eM) none (some em_260) (Nat.beq mi 260)) (Nat.blt mi 261))
       (@Bool.rec (fun _ => Option eM)
        (@Bool.rec (fun _ => Option eM) none (some em_259) (Nat.beq mi 259))
        (@Bool.rec (fun _ => Option eM) none (some em_258) (Nat.beq mi 258)) (Nat.blt mi 259)) (Nat.blt mi 260))
      (@Bool.rec (fun _ => Option eM)
       (@Bool.rec (fun _ => Option eM)
        (@Bool.rec (fun _ => Option eM) none (some em_257) (Nat.beq mi 257))
        (@Bool.rec (fun _ => Option eM) none (some em_256) (Nat.beq mi 256)) (Nat.blt mi 257))
       (@Bool.rec (fun _ => Option eM)
        (@Bool.rec (fun _ => Option eM) none (some em_255) (Nat.beq mi 255))
        (@Bool.rec (fun _ => Option eM) none (some em_254) (Nat.beq mi 254)) (Nat.blt mi 255)) (Nat.blt mi 256)) (Nat.blt mi 258))
     (@Bool.rec (fun _ => Option eM)
      (@Bool.rec (fun _ => Option eM)
       (@Bool.rec (fun _ => Option eM)
        (@Bool.rec (fun _ => Option eM)
         (@Bool.rec (fun _ => Option eM) none (some em_253) (Nat.beq mi 253))
         (@Bool.rec (fun _ => Option eM) none (some em_252) (Nat.beq mi 252)) (Nat.blt mi 253))
        (@Bool.rec (fun _ => Option eM) none (some em_251) (Nat.beq mi 251)) (Nat.blt mi 252))
       (@Bool.rec (fun _ => Option eM)
        (@Bool.rec (fun _ => Option eM) none (some em_250) (Nat.beq mi 250))
        (@Bool.rec (fun _ => Option eM) none (some em_249) (Nat.beq mi 249)) (Nat.blt mi 250)) (Nat.blt mi 251))
      (@Bool.rec (fun _ => Option eM)
       (@Bool.rec (fun _ => Option eM)
        (@Bool.rec (fun _ => Option eM) none (some em_248) (Nat.beq mi 248))
        (@Bool.rec (fun _ => Option eM) none (some em_247) (Nat.beq mi 247)) (Nat.blt mi 248))
       (@Bool.rec (fun _ => Option eM)
        (@Bool.rec (fun _ => Option eM) none (some em_246) (Nat.beq mi 246))
        (@Bool.rec (fun _ => Option eM) none (some em_245) (Nat.beq mi 245)) (Nat.blt mi 246)) (Nat.blt mi 247)) (Nat.blt mi 249)) (Nat.blt mi 254)) (Nat.blt mi 263))
   (@Bool.rec (fun _ => Option eM)
    (@Bool.rec (fun _ => Option eM)
     (@Bool.rec (fun _ => Option eM)
      (@Bool.rec (fun _ => Option eM)
       (@Bool.rec (fun _ => Option eM)
        (@Bool.rec (fun _ => Option eM)
         (@Bool.rec (fun _ => Option eM) none (some em_244) (Nat.beq mi 244))
         (@Bool.rec (fun _ => Option eM) none (some em_243) (Nat.beq mi 243)) (Nat.blt mi 244))
        (@Bool.rec (fun _ => Option eM) none (some em_242) (Nat.beq mi 242)) (Nat.blt mi 243))
       (@Bool.rec (fun _ => Option eM)
        (@Bool.rec (fun _ => Option eM) none (some em_241) (Nat.beq mi 241))
        (@Bool.rec (fun _ => Option eM) none (some em_240) (Nat.beq mi 240)) (Nat.blt mi 241)) (Nat.blt mi 242))
      (@Bool.rec (fun _ => Option eM)
       (@Bool.rec (fun _ => Option eM)
        (@Bool.rec (fun _ => Option eM) none (some em_239) (Nat.beq mi 239))
        (@Bool.rec (fun _ => Option eM) none (some em_238) (Nat.beq mi 238)) (Nat.blt mi 239))
       (@Bool.rec (fun _ => Option eM)
        (@Bool.rec (fun _ => Option eM) none (some em_237) (Nat.beq mi 237))
        (@Bool.rec (fun _ => Option eM) none (some em_236) (Nat.beq mi 236)) (Nat.blt mi 237)) (Nat.blt mi 238)) (Nat.blt mi 240))
     (@Bool.rec (fun _ => Option eM)
      (@Bool.rec (fun _ => Option eM)
       (@Bool.rec (fun _ => Option eM)
        (@Bool.rec (fun _ => Option eM)
         (@Bool.rec (fun _ => Option eM) none (some em_235) (Nat.beq mi 235))
         (@Bool.rec (fun _ => Option eM) none (some em_234) (Nat.beq mi 234)) (Nat.blt mi 235))
        (@Bool.rec (fun _ => Option eM) none (some em_233) (Nat.beq mi 233)) (Nat.blt mi 234))
       (@Bool.rec (fun _ => Option eM)
        (@Bool.rec (fun _ => Option eM) none (some em_232) (Nat.beq mi 232))
        (@Bool.rec (fun _ => Option eM) none (some em_231) (Nat.beq mi 231)) (Nat.blt mi 232)) (Nat.blt mi 233))
      (@Bool.rec (fun _ => Option eM)
       (@Bool.rec (fun _ => Option eM)
        (@Bool.rec (fun _ => Option eM) none (some em_230) (Nat.beq mi 230))
        (@Bool.rec (fun _ => Option eM) none (some em_229) (Nat.beq mi 229)) (Nat.blt mi 230))
       (@Bool.rec (fun _ => Option eM)
        (@Bool.rec (fun _ => Option eM) none (some em_228) (Nat.beq mi 228))
        (@Bool.rec (fun _ => Option eM) none (some em_227) (Nat.beq mi 227)) (Nat.blt mi 228)) (Nat.blt mi 229)) (Nat.blt mi 231)) (Nat.blt mi 236))
    (@Bool.rec (fun _ => Option eM)
     (@Bool.rec (fun _ => Option eM)
      (@Bool.rec (fun _ => Option eM)
       (@Bool.rec (fun _ => Option eM)
        (@Bool.rec (fun _ => Option eM)
         (@Bool.rec (fun _ => Option eM) none (some em_226) (Nat.beq mi 226))
         (@Bool.rec (fun _ => Option eM) none (some em_225) (Nat.beq mi 225)) (Nat.blt mi 226))
        (@Bool.rec (fun _ => Option eM) none (some em_224) (Nat.beq mi 224)) (Nat.blt mi 225))
       (@Bool.rec (fun _ => Option eM)
        (@Bool.rec (fun _ => Option eM) none (some em_223) (Nat.beq mi 223))
        (@Bool.rec (fun _ => Option eM) none (some em_222) (Nat.beq mi 222)) (Nat.blt mi 223)) (Nat.blt mi 224))
      (@Bool.rec (fun _ => Option eM)
       (@Bool.rec (fun _ => Option eM)
        (@Bool.rec (fun _ => Option eM) none (some em_221) (Nat.beq mi 221))
        (@Bool.rec (fun _ => Option eM) none (some em_220) (Nat.beq mi 220)) (Nat.blt mi 221))
       (@Bool.rec (fun _ => Option eM)
        (@Bool.rec (fun _ => Option eM) none (some em_219) (Nat.beq mi 219))
        (@Bool.rec (fun _ => Option eM) none (some em_218) (Nat.beq mi 218)) (Nat.blt mi 219)) (Nat.blt mi 220)) (Nat.blt mi 222))
     (@Bool.rec (fun _ => Option eM)
      (@Bool.rec (fun _ => Option eM)
       (@Bool.rec (fun _ => Option eM)
        (@Bool.rec (fun _ => Option eM) none (some em_217) (Nat.beq mi 217))
        (@Bool.rec (fun _ => Option eM) none (some em_216) (Nat.beq mi 216)) (Nat.blt mi 217))
       (@Bool.rec (fun _ => Option eM)
        (@Bool.rec (fun _ => Option eM) none (some em_215) (Nat.beq mi 215))
        (@Bool.rec (fun _ => Option eM) none (some em_214) (Nat.beq mi 214)) (Nat.blt mi 215)) (Nat.blt mi 216))
      (@Bool.rec (fun _ => Option eM)
       (@Bool.rec (fun _ => Option eM)
        (@Bool.rec (fun _ => Option eM) none (some em_213) (Nat.beq mi 213))
        (@Bool.rec (fun _ => Option eM) none (some em_212) (Nat.beq mi 212)) (Nat.blt mi 213))
       (@Bool.rec (fun _ => Option eM)
        (@Bool.rec (fun _ => Option eM) none (some em_211) (Nat.beq mi 211))
        (@Bool.rec (fun _ => Option eM) none (some em_210) (Nat.beq mi 210)) (Nat.blt mi 211)) (Nat.blt mi 212)) (Nat.blt mi 214)) (Nat.blt mi 218)) (Nat.blt mi 227)) (Nat.blt mi 245))
  (@Bool.rec (fun _ => Option eM)
   (@Bool.rec (fun _ => Option eM)
    (@Bool.rec (fun _ => Option eM)
     (@Bool.rec (fun _ => Option eM)
      (@Bool.rec (fun _ => Option eM)
       (@Bool.rec (fun _ => Option eM)
        (@Bool.rec (fun _ => Option eM)
         (@Bool.rec (fun _ => Option eM) none (some em_209) (Nat.beq mi 209))
         (@Bool.rec (fun _ => Option eM) none (some em_208) (Nat.beq mi 208)) (Nat.blt mi 209))
        (@Bool.rec (fun _ => Option eM) none (some em_207) (Nat.beq mi 207)) (Nat.blt mi 208))
       (@Bool.rec (fun _ => Option eM)
        (@Bool.rec (fun _ => Option eM) none (some em_206) (Nat.beq mi 206))
        (@Bool.rec (fun _ => Option eM) none (some em_205) (Nat.beq mi 205)) (Nat.blt mi 206)) (Nat.blt mi 207))
      (@Bool.rec (fun _ => Option eM)
       (@Bool.rec (fun _ => Option eM)
        (@Bool.rec (fun _ => Option eM) none (some em_204) (Nat.beq mi 204))
        (@Bool.rec (fun _ => Option eM) none (some em_203) (Nat.beq mi 203)) (Nat.blt mi 204))
       (@Bool.rec (fun _ => Option eM)
        (@Bool.rec (fun _ => Option eM) none (some em_202) (Nat.beq mi 202))
        (@Bool.rec (fun _ => Option eM) none (some em_201) (Nat.beq mi 201)) (Nat.blt mi 202)) (Nat.blt mi 203)) (Nat.blt mi 205))
     (@Bool.rec (fun _ => Option eM)
      (@Bool.rec (fun _ => Option eM)
       (@Bool.rec (fun _ => Option eM)
        (@Bool.rec (fun _ => Option eM)
         (@Bool.rec (fun _ => Option eM) none (some em_200) (Nat.beq mi 200))
         (@Bool.rec (fun _ => Option eM) none (some em_199) (Nat.beq mi 199)) (Nat.blt mi 200))
        (@Bool.rec (fun _ => Option eM) none (some em_198) (Nat.beq mi 198)) (Nat.blt mi 199))
       (@Bool.rec (fun _ => Option eM)
        (@Bool.rec (fun _ => Option eM) none (some em_197) (Nat.beq mi 197))
        (@Bool.rec (fun _ => Option eM) none (some em_196) (Nat.beq mi 196)) (Nat.blt mi 197)) (Nat.blt mi 198))
      (@Bool.rec (fun _ => Option eM)
       (@Bool.rec (fun _ => Option eM)
        (@Bool.rec (fun _ => Option eM) none (some em_195) (Nat.beq mi 195))
        (@Bool.rec (fun _ => Option eM) none (some em_194) (Nat.beq mi 194)) (Nat.blt mi 195))
       (@Bool.rec (fun _ => Option eM)
        (@Bool.rec (fun _ => Option eM) none (some em_193) (Nat.beq mi 193))
        (@Bool.rec (fun _ => Option eM) none (some em_192) (Nat.beq mi 192)) (Nat.blt mi 193)) (Nat.blt mi 194)) (Nat.blt mi 196)) (Nat.blt mi 201))
    (@Bool.rec (fun _ => Option eM)
     (@Bool.rec (fun _ => Option eM)
      (@Bool.rec (fun _ => Option eM)
       (@Bool.rec (fun _ => Option eM)
        (@Bool.rec (fun _ => Option eM)
         (@Bool.rec (fun _ => Option eM) none (some em_191) (Nat.beq mi 191))
         (@Bool.rec (fun _ => Option eM) none (some em_190) (Nat.beq mi 190)) (Nat.blt mi 191))
        (@Bool.rec (fun _ => Option eM) none (some em_189) (Nat.beq mi 189)) (Nat.blt mi 190))
       (@Bool.rec (fun _ => Option eM)
        (@Bool.rec (fun _ => Option eM) none (some em_188) (Nat.beq mi 188))
        (@Bool.rec (fun _ => Option eM) none (some em_187) (Nat.beq mi 187)) (Nat.blt mi 188)) (Nat.blt mi 189))
      (@Bool.rec (fun _ => Option eM)
       (@Bool.rec (fun _ => Option eM)
        (@Bool.rec (fun _ => Option eM) none (some em_186) (Nat.beq mi 186))
        (@Bool.rec (fun _ => Option eM) none (some em_185) (Nat.beq mi 185)) (Nat.blt mi 186))
       (@Bool.rec (fun _ => Option eM)
        (@Bool.rec (fun _ => Option eM) none (some em_184) (Nat.beq mi 184))
        (@Bool.rec (fun _ => Option eM) none (some em_183) (Nat.beq mi 183)) (Nat.blt mi 184)) (Nat.blt mi 185)) (Nat.blt mi 187))
     (@Bool.rec (fun _ => Option eM)
      (@Bool.rec (fun _ => Option eM)
       (@Bool.rec (fun _ => Option eM)
        (@Bool.rec (fun _ => Option eM) none (some em_182) (Nat.beq mi 182))
        (@Bool.rec (fun _ => Option eM) none (some em_181) (Nat.beq mi 181)) (Nat.blt mi 182))
       (@Bool.rec (fun _ => Option eM)
        (@Bool.rec (fun _ => Option eM) none (some em_180) (Nat.beq mi 180))
        (@Bool.rec (fun _ => Option eM) none (some em_179) (Nat.beq mi 179)) (Nat.blt mi 180)) (Nat.blt mi 181))
      (@Bool.rec (fun _ => Option eM)
       (@Bool.rec (fun _ => Option eM)
        (@Bool.rec (fun _ => Option eM) none (some em_178) (Nat.beq mi 178))
        (@Bool.rec (fun _ => Option eM) none (some em_177) (Nat.beq mi 177)) (Nat.blt mi 178))
       (@Bool.rec (fun _ => Option eM)
        (@Bool.rec (fun _ => Option eM) none (some em_176) (Nat.beq mi 176))
        (@Bool.rec (fun _ => Option eM) none (some em_175) (Nat.beq mi 175)) (Nat.blt mi 176)) (Nat.blt mi 177)) (Nat.blt mi 179)) (Nat.blt mi 183)) (Nat.blt mi 192))
   (@Bool.rec (fun _ => Option eM)
    (@Bool.rec (fun _ => Option eM)
     (@Bool.rec (fun _ => Option eM)
      (@Bool.rec (fun _ => Option eM)
       (@Bool.rec (fun _ => Option eM)
        (@Bool.rec (fun _ => Option eM)
         (@Bool.rec (fun _ => Option eM) none (some em_174) (Nat.beq mi 174))
         (@Bool.rec (fun _ => Option eM) none (some em_173) (Nat.beq mi 173)) (Nat.blt mi 174))
        (@Bool.rec (fun _ => Option eM) none (some em_172) (Nat.beq mi 172)) (Nat.blt mi 173))
       (@Bool.rec (fun _ => Option eM)
        (@Bool.rec (fun _ => Option eM) none (some em_171) (Nat.beq mi 171))
        (@Bool.rec (fun _ => Option eM) none (some em_170) (Nat.beq mi 170)) (Nat.blt mi 171)) (Nat.blt mi 172))
      (@Bool.rec (fun _ => Option eM)
       (@Bool.rec (fun _ => Option eM)
        (@Bool.rec (fun _ => Option eM) none (some em_169) (Nat.beq mi 169))
        (@Bool.rec (fun _ => Option eM) none (some em_168) (Nat.beq mi 168)) (Nat.blt mi 169))
       (@Bool.rec (fun _ => Option eM)
        (@Bool.rec (fun _ => Option eM) none (some em_167) (Nat.beq mi 167))
        (@Bool.rec (fun _ => Option eM) none (some em_166) (Nat.beq mi 166)) (Nat.blt mi 167)) (Nat.blt mi 168)) (Nat.blt mi 170))
     (@Bool.rec (fun _ => Option eM)
      (@Bool.rec (fun _ => Option eM)
       (@Bool.rec (fun _ => Option eM)
        (@Bool.rec (fun _ => Option eM)
         (@Bool.rec (fun _ => Option eM) none (some em_165) (Nat.beq mi 165))
         (@Bool.rec (fun _ => Option eM) none (some em_164) (Nat.beq mi 164)) (Nat.blt mi 165))
        (@Bool.rec (fun _ => Option eM) none (some em_163) (Nat.beq mi 163)) (Nat.blt mi 164))
       (@Bool.rec (fun _ => Option eM)
        (@Bool.rec (fun _ => Option eM) none (some em_162) (Nat.beq mi 162))
        (@Bool.rec (fun _ => Option eM) none (some em_161) (Nat.beq mi 161)) (Nat.blt mi 162)) (Nat.blt mi 163))
      (@Bool.rec (fun _ => Option eM)
       (@Bool.rec (fun _ => Option eM)
        (@Bool.rec (fun _ => Option eM) none (some em_160) (Nat.beq mi 160))
        (@Bool.rec (fun _ => Option eM) none (some em_159) (Nat.beq mi 159)) (Nat.blt mi 160))
       (@Bool.rec (fun _ => Option eM)
        (@Bool.rec (fun _ => Option eM) none (some em_158) (Nat.beq mi 158))
        (@Bool.rec (fun _ => Option eM) none (some em_157) (Nat.beq mi 157)) (Nat.blt mi 158)) (Nat.blt mi 159)) (Nat.blt mi 161)) (Nat.blt mi 166))
    (@Bool.rec (fun _ => Option eM)
     (@Bool.rec (fun _ => Option eM)
      (@Bool.rec (fun _ => Option eM)
       (@Bool.rec (fun _ => Option eM)
        (@Bool.rec (fun _ => Option eM)
         (@Bool.rec (fun _ => Option eM) none (some em_156) (Nat.beq mi 156))
         (@Bool.rec (fun _ => Option eM) none (some em_155) (Nat.beq mi 155)) (Nat.blt mi 156))
        (@Bool.rec (fun _ => Option eM) none (some em_154) (Nat.beq mi 154)) (Nat.blt mi 155))
       (@Bool.rec (fun _ => Option eM)
        (@Bool.rec (fun _ => Option eM) none (some em_153) (Nat.beq mi 153))
        (@Bool.rec (fun _ => Option eM) none (some em_152) (Nat.beq mi 152)) (Nat.blt mi 153)) (Nat.blt mi 154))
      (@Bool.rec (fun _ => Option eM)
       (@Bool.rec (fun _ => Option eM)
        (@Bool.rec (fun _ => Option eM) none (some em_151) (Nat.beq mi 151))
        (@Bool.rec (fun _ => Option eM) none (some em_150) (Nat.beq mi 150)) (Nat.blt mi 151))
       (@Bool.rec (fun _ => Option eM)
        (@Bool.rec (fun _ => Option eM) none (some em_149) (Nat.beq mi 149))
        (@Bool.rec (fun _ => Option eM) none (some em_148) (Nat.beq mi 148)) (Nat.blt mi 149)) (Nat.blt mi 150)) (Nat.blt mi 152))
     (@Bool.rec (fun _ => Option eM)
      (@Bool.rec (fun _ => Option eM)
       (@Bool.rec (fun _ => Option eM)
        (@Bool.rec (fun _ => Option eM) none (some em_147) (Nat.beq mi 147))
        (@Bool.rec (fun _ => Option eM) none (some em_146) (Nat.beq mi 146)) (Nat.blt mi 147))
       (@Bool.rec (fun _ => Option eM)
        (@Bool.rec (fun _ => Option eM) none (some em_145) (Nat.beq mi 145))
        (@Bool.rec (fun _ => Option eM) none (some em_144) (Nat.beq mi 144)) (Nat.blt mi 145)) (Nat.blt mi 146))
      (@Bool.rec (fun _ => Option eM)
       (@Bool.rec (fun _ => Option eM)
        (@Bool.rec (fun _ => Option eM) none (some em_143) (Nat.beq mi 143))
        (@Bool.rec (fun _ => Option eM) none (some em_142) (Nat.beq mi 142)) (Nat.blt mi 143))
       (@Bool.rec (fun _ => Option eM)
        (@Bool.rec (fun _ => Option eM) none (some em_141) (Nat.beq mi 141))
        (@Bool.rec (fun _ => Option eM) none (some em_140) (Nat.beq mi 140)) (Nat.blt mi 141)) (Nat.blt mi 142)) (Nat.blt mi 144)) (Nat.blt mi 148)) (Nat.blt mi 157)) (Nat.blt mi 175)) (Nat.blt mi 210))
 (@Bool.rec (fun _ => Option eM)
  (@Bool.rec (fun _ => Option eM)
   (@Bool.rec (fun _ => Option eM)
    (@Bool.rec (fun _ => Option eM)
     (@Bool.rec (fun _ => Option eM)
      (@Bool.rec (fun _ => Option eM)
       (@Bool.rec (fun _ => Option eM)
        (@Bool.rec (fun _ => Option eM)
         (@Bool.rec (fun _ => Option eM) none (some em_139) (Nat.beq mi 139))
         (@Bool.rec (fun _ => Option eM) none (some em_138) (Nat.beq mi 138)) (Nat.blt mi 139))
        (@Bool.rec (fun _ => Option eM) none (some em_137) (Nat.beq mi 137)) (Nat.blt mi 138))
       (@Bool.rec (fun _ => Option eM)
        (@Bool.rec (fun _ => Option eM) none (some em_136) (Nat.beq mi 136))
        (@Bool.rec (fun _ => Option eM) none (some em_135) (Nat.beq mi 135)) (Nat.blt mi 136)) (Nat.blt mi 137))
      (@Bool.rec (fun _ => Option eM)
       (@Bool.rec (fun _ => Option eM)
        (@Bool.rec (fun _ => Option eM) none (some em_134) (Nat.beq mi 134))
        (@Bool.rec (fun _ => Option eM) none (some em_133) (Nat.beq mi 133)) (Nat.blt mi 134))
       (@Bool.rec (fun _ => Option eM)
        (@Bool.rec (fun _ => Option eM) none (some em_132) (Nat.beq mi 132))
        (@Bool.rec (fun _ => Option eM) none (some em_131) (Nat.beq mi 131)) (Nat.blt mi 132)) (Nat.blt mi 133)) (Nat.blt mi 135))
     (@Bool.rec (fun _ => Option eM)
      (@Bool.rec (fun _ => Option eM)
       (@Bool.rec (fun _ => Option eM)
        (@Bool.rec (fun _ => Option eM)
         (@Bool.rec (fun _ => Option eM) none (some em_130) (Nat.beq mi 130))
         (@Bool.rec (fun _ => Option eM) none (some em_129) (Nat.beq mi 129)) (Nat.blt mi 130))
        (@Bool.rec (fun _ => Option eM) none (some em_128) (Nat.beq mi 128)) (Nat.blt mi 129))
       (@Bool.rec (fun _ => Option eM)
        (@Bool.rec (fun _ => Option eM) none (some em_127) (Nat.beq mi 127))
        (@Bool.rec (fun _ => Option eM) none (some em_126) (Nat.beq mi 126)) (Nat.blt mi 127)) (Nat.blt mi 128))
      (@Bool.rec (fun _ => Option eM)
       (@Bool.rec (fun _ => Option eM)
        (@Bool.rec (fun _ => Option eM) none (some em_125) (Nat.beq mi 125))
        (@Bool.rec (fun _ => Option eM) none (some em_124) (Nat.beq mi 124)) (Nat.blt mi 125))
       (@Bool.rec (fun _ => Option eM)
        (@Bool.rec (fun _ => Option eM) none (some em_123) (Nat.beq mi 123))
        (@Bool.rec (fun _ => Option eM) none (some em_122) (Nat.beq mi 122)) (Nat.blt mi 123)) (Nat.blt mi 124)) (Nat.blt mi 126)) (Nat.blt mi 131))
    (@Bool.rec (fun _ => Option eM)
     (@Bool.rec (fun _ => Option eM)
      (@Bool.rec (fun _ => Option eM)
       (@Bool.rec (fun _ => Option eM)
        (@Bool.rec (fun _ => Option eM)
         (@Bool.rec (fun _ => Option eM) none (some em_121) (Nat.beq mi 121))
         (@Bool.rec (fun _ => Option eM) none (some em_120) (Nat.beq mi 120)) (Nat.blt mi 121))
        (@Bool.rec (fun _ => Option eM) none (some em_119) (Nat.beq mi 119)) (Nat.blt mi 120))
       (@Bool.rec (fun _ => Option eM)
        (@Bool.rec (fun _ => Option eM) none (some em_118) (Nat.beq mi 118))
        (@Bool.rec (fun _ => Option eM) none (some em_117) (Nat.beq mi 117)) (Nat.blt mi 118)) (Nat.blt mi 119))
      (@Bool.rec (fun _ => Option eM)
       (@Bool.rec (fun _ => Option eM)
        (@Bool.rec (fun _ => Option eM) none (some em_116) (Nat.beq mi 116))
        (@Bool.rec (fun _ => Option eM) none (some em_115) (Nat.beq mi 115)) (Nat.blt mi 116))
       (@Bool.rec (fun _ => Option eM)
        (@Bool.rec (fun _ => Option eM) none (some em_114) (Nat.beq mi 114))
        (@Bool.rec (fun _ => Option eM) none (some em_113) (Nat.beq mi 113)) (Nat.blt mi 114)) (Nat.blt mi 115)) (Nat.blt mi 117))
     (@Bool.rec (fun _ => Option eM)
      (@Bool.rec (fun _ => Option eM)
       (@Bool.rec (fun _ => Option eM)
        (@Bool.rec (fun _ => Option eM) none (some em_112) (Nat.beq mi 112))
        (@Bool.rec (fun _ => Option eM) none (some em_111) (Nat.beq mi 111)) (Nat.blt mi 112))
       (@Bool.rec (fun _ => Option eM)
        (@Bool.rec (fun _ => Option eM) none (some em_110) (Nat.beq mi 110))
        (@Bool.rec (fun _ => Option eM) none (some em_109) (Nat.beq mi 109)) (Nat.blt mi 110)) (Nat.blt mi 111))
      (@Bool.rec (fun _ => Option eM)
       (@Bool.rec (fun _ => Option eM)
        (@Bool.rec (fun _ => Option eM) none (some em_108) (Nat.beq mi 108))
        (@Bool.rec (fun _ => Option eM) none (some em_107) (Nat.beq mi 107)) (Nat.blt mi 108))
       (@Bool.rec (fun _ => Option eM)
        (@Bool.rec (fun _ => Option eM) none (some em_106) (Nat.beq mi 106))
        (@Bool.rec (fun _ => Option eM) none (some em_105) (Nat.beq mi 105)) (Nat.blt mi 106)) (Nat.blt mi 107)) (Nat.blt mi 109)) (Nat.blt mi 113)) (Nat.blt mi 122))
   (@Bool.rec (fun _ => Option eM)
    (@Bool.rec (fun _ => Option eM)
     (@Bool.rec (fun _ => Option eM)
      (@Bool.rec (fun _ => Option eM)
       (@Bool.rec (fun _ => Option eM)
        (@Bool.rec (fun _ => Option eM)
         (@Bool.rec (fun _ => Option eM) none (some em_104) (Nat.beq mi 104))
         (@Bool.rec (fun _ => Option eM) none (some em_103) (Nat.beq mi 103)) (Nat.blt mi 104))
        (@Bool.rec (fun _ => Option eM) none (some em_102) (Nat.beq mi 102)) (Nat.blt mi 103))
       (@Bool.rec (fun _ => Option eM)
        (@Bool.rec (fun _ => Option eM) none (some em_101) (Nat.beq mi 101))
        (@Bool.rec (fun _ => Option eM) none (some em_100) (Nat.beq mi 100)) (Nat.blt mi 101)) (Nat.blt mi 102))
      (@Bool.rec (fun _ => Option eM)
       (@Bool.rec (fun _ => Option eM)
        (@Bool.rec (fun _ => Option eM) none (some em_99) (Nat.beq mi 99))
        (@Bool.rec (fun _ => Option eM) none (some em_98) (Nat.beq mi 98)) (Nat.blt mi 99))
       (@Bool.rec (fun _ => Option eM)
        (@Bool.rec (fun _ => Option eM) none (some em_97) (Nat.beq mi 97))
        (@Bool.rec (fun _ => Option eM) none (some em_96) (Nat.beq mi 96)) (Nat.blt mi 97)) (Nat.blt mi 98)) (Nat.blt mi 100))
     (@Bool.rec (fun _ => Option eM)
      (@Bool.rec (fun _ => Option eM)
       (@Bool.rec (fun _ => Option eM)
        (@Bool.rec (fun _ => Option eM)
         (@Bool.rec (fun _ => Option eM) none (some em_95) (Nat.beq mi 95))
         (@Bool.rec (fun _ => Option eM) none (some em_94) (Nat.beq mi 94)) (Nat.blt mi 95))
        (@Bool.rec (fun _ => Option eM) none (some em_93) (Nat.beq mi 93)) (Nat.blt mi 94))
       (@Bool.rec (fun _ => Option eM)
        (@Bool.rec (fun _ => Option eM) none (some em_92) (Nat.beq mi 92))
        (@Bool.rec (fun _ => Option eM) none (some em_91) (Nat.beq mi 91)) (Nat.blt mi 92)) (Nat.blt mi 93))
      (@Bool.rec (fun _ => Option eM)
       (@Bool.rec (fun _ => Option eM)
        (@Bool.rec (fun _ => Option eM) none (some em_90) (Nat.beq mi 90))
        (@Bool.rec (fun _ => Option eM) none (some em_89) (Nat.beq mi 89)) (Nat.blt mi 90))
       (@Bool.rec (fun _ => Option eM)
        (@Bool.rec (fun _ => Option eM) none (some em_88) (Nat.beq mi 88))
        (@Bool.rec (fun _ => Option eM) none (some em_87) (Nat.beq mi 87)) (Nat.blt mi 88)) (Nat.blt mi 89)) (Nat.blt mi 91)) (Nat.blt mi 96))
    (@Bool.rec (fun _ => Option eM)
     (@Bool.rec (fun _ => Option eM)
      (@Bool.rec (fun _ => Option eM)
       (@Bool.rec (fun _ => Option eM)
        (@Bool.rec (fun _ => Option eM)
         (@Bool.rec (fun _ => Option eM) none (some em_86) (Nat.beq mi 86))
         (@Bool.rec (fun _ => Option eM) none (some em_85) (Nat.beq mi 85)) (Nat.blt mi 86))
        (@Bool.rec (fun _ => Option eM) none (some em_84) (Nat.beq mi 84)) (Nat.blt mi 85))
       (@Bool.rec (fun _ => Option eM)
        (@Bool.rec (fun _ => Option eM) none (some em_83) (Nat.beq mi 83))
        (@Bool.rec (fun _ => Option eM) none (some em_82) (Nat.beq mi 82)) (Nat.blt mi 83)) (Nat.blt mi 84))
      (@Bool.rec (fun _ => Option eM)
       (@Bool.rec (fun _ => Option eM)
        (@Bool.rec (fun _ => Option eM) none (some em_81) (Nat.beq mi 81))
        (@Bool.rec (fun _ => Option eM) none (some em_80) (Nat.beq mi 80)) (Nat.blt mi 81))
       (@Bool.rec (fun _ => Option eM)
        (@Bool.rec (fun _ => Option eM) none (some em_79) (Nat.beq mi 79))
        (@Bool.rec (fun _ => Option eM) none (some em_78) (Nat.beq mi 78)) (Nat.blt mi 79)) (Nat.blt mi 80)) (Nat.blt mi 82))
     (@Bool.rec (fun _ => Option eM)
      (@Bool.rec (fun _ => Option eM)
       (@Bool.rec (fun _ => Option eM)
        (@Bool.rec (fun _ => Option eM) none (some em_77) (Nat.beq mi 77))
        (@Bool.rec (fun _ => Option eM) none (some em_76) (Nat.beq mi 76)) (Nat.blt mi 77))
       (@Bool.rec (fun _ => Option eM)
        (@Bool.rec (fun _ => Option eM) none (some em_75) (Nat.beq mi 75))
        (@Bool.rec (fun _ => Option eM) none (some em_74) (Nat.beq mi 74)) (Nat.blt mi 75)) (Nat.blt mi 76))
      (@Bool.rec (fun _ => Option eM)
       (@Bool.rec (fun _ => Option eM)
        (@Bool.rec (fun _ => Option eM) none (some em_73) (Nat.beq mi 73))
        (@Bool.rec (fun _ => Option eM) none (some em_72) (Nat.beq mi 72)) (Nat.blt mi 73))
       (@Bool.rec (fun _ => Option eM)
        (@Bool.rec (fun _ => Option eM) none (some em_71) (Nat.beq mi 71))
        (@Bool.rec (fun _ => Option eM) none (some em_70) (Nat.beq mi 70)) (Nat.blt mi 71)) (Nat.blt mi 72)) (Nat.blt mi 74)) (Nat.blt mi 78)) (Nat.blt mi 87)) (Nat.blt mi 105))
  (@Bool.rec (fun _ => Option eM)
   (@Bool.rec (fun _ => Option eM)
    (@Bool.rec (fun _ => Option eM)
     (@Bool.rec (fun _ => Option eM)
      (@Bool.rec (fun _ => Option eM)
       (@Bool.rec (fun _ => Option eM)
        (@Bool.rec (fun _ => Option eM)
         (@Bool.rec (fun _ => Option eM) none (some em_69) (Nat.beq mi 69))
         (@Bool.rec (fun _ => Option eM) none (some em_68) (Nat.beq mi 68)) (Nat.blt mi 69))
        (@Bool.rec (fun _ => Option eM) none (some em_67) (Nat.beq mi 67)) (Nat.blt mi 68))
       (@Bool.rec (fun _ => Option eM)
        (@Bool.rec (fun _ => Option eM) none (some em_66) (Nat.beq mi 66))
        (@Bool.rec (fun _ => Option eM) none (some em_65) (Nat.beq mi 65)) (Nat.blt mi 66)) (Nat.blt mi 67))
      (@Bool.rec (fun _ => Option eM)
       (@Bool.rec (fun _ => Option eM)
        (@Bool.rec (fun _ => Option eM) none (some em_64) (Nat.beq mi 64))
        (@Bool.rec (fun _ => Option eM) none (some em_63) (Nat.beq mi 63)) (Nat.blt mi 64))
       (@Bool.rec (fun _ => Option eM)
        (@Bool.rec (fun _ => Option eM) none (some em_62) (Nat.beq mi 62))
        (@Bool.rec (fun _ => Option eM) none (some em_61) (Nat.beq mi 61)) (Nat.blt mi 62)) (Nat.blt mi 63)) (Nat.blt mi 65))
     (@Bool.rec (fun _ => Option eM)
      (@Bool.rec (fun _ => Option eM)
       (@Bool.rec (fun _ => Option eM)
        (@Bool.rec (fun _ => Option eM)
         (@Bool.rec (fun _ => Option eM) none (some em_60) (Nat.beq mi 60))
         (@Bool.rec (fun _ => Option eM) none (some em_59) (Nat.beq mi 59)) (Nat.blt mi 60))
        (@Bool.rec (fun _ => Option eM) none (some em_58) (Nat.beq mi 58)) (Nat.blt mi 59))
       (@Bool.rec (fun _ => Option eM)
        (@Bool.rec (fun _ => Option eM) none (some em_57) (Nat.beq mi 57))
        (@Bool.rec (fun _ => Option eM) none (some em_56) (Nat.beq mi 56)) (Nat.blt mi 57)) (Nat.blt mi 58))
      (@Bool.rec (fun _ => Option eM)
       (@Bool.rec (fun _ => Option eM)
        (@Bool.rec (fun _ => Option eM) none (some em_55) (Nat.beq mi 55))
        (@Bool.rec (fun _ => Option eM) none (some em_54) (Nat.beq mi 54)) (Nat.blt mi 55))
       (@Bool.rec (fun _ => Option eM)
        (@Bool.rec (fun _ => Option eM) none (some em_53) (Nat.beq mi 53))
        (@Bool.rec (fun _ => Option eM) none (some em_52) (Nat.beq mi 52)) (Nat.blt mi 53)) (Nat.blt mi 54)) (Nat.blt mi 56)) (Nat.blt mi 61))
    (@Bool.rec (fun _ => Option eM)
     (@Bool.rec (fun _ => Option eM)
      (@Bool.rec (fun _ => Option eM)
       (@Bool.rec (fun _ => Option eM)
        (@Bool.rec (fun _ => Option eM)
         (@Bool.rec (fun _ => Option eM) none (some em_51) (Nat.beq mi 51))
         (@Bool.rec (fun _ => Option eM) none (some em_50) (Nat.beq mi 50)) (Nat.blt mi 51))
        (@Bool.rec (fun _ => Option eM) none (some em_49) (Nat.beq mi 49)) (Nat.blt mi 50))
       (@Bool.rec (fun _ => Option eM)
        (@Bool.rec (fun _ => Option eM) none (some em_48) (Nat.beq mi 48))
        (@Bool.rec (fun _ => Option eM) none (some em_47) (Nat.beq mi 47)) (Nat.blt mi 48)) (Nat.blt mi 49))
      (@Bool.rec (fun _ => Option eM)
       (@Bool.rec (fun _ => Option eM)
        (@Bool.rec (fun _ => Option eM) none (some em_46) (Nat.beq mi 46))
        (@Bool.rec (fun _ => Option eM) none (some em_45) (Nat.beq mi 45)) (Nat.blt mi 46))
       (@Bool.rec (fun _ => Option eM)
        (@Bool.rec (fun _ => Option eM) none (some em_44) (Nat.beq mi 44))
        (@Bool.rec (fun _ => Option eM) none (some em_43) (Nat.beq mi 43)) (Nat.blt mi 44)) (Nat.blt mi 45)) (Nat.blt mi 47))
     (@Bool.rec (fun _ => Option eM)
      (@Bool.rec (fun _ => Option eM)
       (@Bool.rec (fun _ => Option eM)
        (@Bool.rec (fun _ => Option eM) none (some em_42) (Nat.beq mi 42))
        (@Bool.rec (fun _ => Option eM) none (some em_41) (Nat.beq mi 41)) (Nat.blt mi 42))
       (@Bool.rec (fun _ => Option eM)
        (@Bool.rec (fun _ => Option eM) none (some em_40) (Nat.beq mi 40))
        (@Bool.rec (fun _ => Option eM) none (some em_39) (Nat.beq mi 39)) (Nat.blt mi 40)) (Nat.blt mi 41))
      (@Bool.rec (fun _ => Option eM)
       (@Bool.rec (fun _ => Option eM)
        (@Bool.rec (fun _ => Option eM) none (some em_38) (Nat.beq mi 38))
        (@Bool.rec (fun _ => Option eM) none (some em_37) (Nat.beq mi 37)) (Nat.blt mi 38))
       (@Bool.rec (fun _ => Option eM)
        (@Bool.rec (fun _ => Option eM) none (some em_36) (Nat.beq mi 36))
        (@Bool.rec (fun _ => Option eM) none (some em_35) (Nat.beq mi 35)) (Nat.blt mi 36)) (Nat.blt mi 37)) (Nat.blt mi 39)) (Nat.blt mi 43)) (Nat.blt mi 52))
   (@Bool.rec (fun _ => Option eM)
    (@Bool.rec (fun _ => Option eM)
     (@Bool.rec (fun _ => Option eM)
      (@Bool.rec (fun _ => Option eM)
       (@Bool.rec (fun _ => Option eM)
        (@Bool.rec (fun _ => Option eM)
         (@Bool.rec (fun _ => Option eM) none (some em_34) (Nat.beq mi 34))
         (@Bool.rec (fun _ => Option eM) none (some em_33) (Nat.beq mi 33)) (Nat.blt mi 34))
        (@Bool.rec (fun _ => Option eM) none (some em_32) (Nat.beq mi 32)) (Nat.blt mi 33))
       (@Bool.rec (fun _ => Option eM)
        (@Bool.rec (fun _ => Option eM) none (some em_31) (Nat.beq mi 31))
        (@Bool.rec (fun _ => Option eM) none (some em_30) (Nat.beq mi 30)) (Nat.blt mi 31)) (Nat.blt mi 32))
      (@Bool.rec (fun _ => Option eM)
       (@Bool.rec (fun _ => Option eM)
        (@Bool.rec (fun _ => Option eM) none (some em_29) (Nat.beq mi 29))
        (@Bool.rec (fun _ => Option eM) none (some em_28) (Nat.beq mi 28)) (Nat.blt mi 29))
       (@Bool.rec (fun _ => Option eM)
        (@Bool.rec (fun _ => Option eM) none (some em_27) (Nat.beq mi 27))
        (@Bool.rec (fun _ => Option eM) none (some em_26) (Nat.beq mi 26)) (Nat.blt mi 27)) (Nat.blt mi 28)) (Nat.blt mi 30))
     (@Bool.rec (fun _ => Option eM)
      (@Bool.rec (fun _ => Option eM)
       (@Bool.rec (fun _ => Option eM)
        (@Bool.rec (fun _ => Option eM)
         (@Bool.rec (fun _ => Option eM) none (some em_25) (Nat.beq mi 25))
         (@Bool.rec (fun _ => Option eM) none (some em_24) (Nat.beq mi 24)) (Nat.blt mi 25))
        (@Bool.rec (fun _ => Option eM) none (some em_23) (Nat.beq mi 23)) (Nat.blt mi 24))
       (@Bool.rec (fun _ => Option eM)
        (@Bool.rec (fun _ => Option eM) none (some em_22) (Nat.beq mi 22))
        (@Bool.rec (fun _ => Option eM) none (some em_21) (Nat.beq mi 21)) (Nat.blt mi 22)) (Nat.blt mi 23))
      (@Bool.rec (fun _ => Option eM)
       (@Bool.rec (fun _ => Option eM)
        (@Bool.rec (fun _ => Option eM) none (some em_20) (Nat.beq mi 20))
        (@Bool.rec (fun _ => Option eM) none (some em_19) (Nat.beq mi 19)) (Nat.blt mi 20))
       (@Bool.rec (fun _ => Option eM)
        (@Bool.rec (fun _ => Option eM) none (some em_18) (Nat.beq mi 18))
        (@Bool.rec (fun _ => Option eM) none (some em_17) (Nat.beq mi 17)) (Nat.blt mi 18)) (Nat.blt mi 19)) (Nat.blt mi 21)) (Nat.blt mi 26))
    (@Bool.rec (fun _ => Option eM)
     (@Bool.rec (fun _ => Option eM)
      (@Bool.rec (fun _ => Option eM)
       (@Bool.rec (fun _ => Option eM)
        (@Bool.rec (fun _ => Option eM)
         (@Bool.rec (fun _ => Option eM) none (some em_16) (Nat.beq mi 16))
         (@Bool.rec (fun _ => Option eM) none (some em_15) (Nat.beq mi 15)) (Nat.blt mi 16))
        (@Bool.rec (fun _ => Option eM) none (some em_14) (Nat.beq mi 14)) (Nat.blt mi 15))
       (@Bool.rec (fun _ => Option eM)
        (@Bool.rec (fun _ => Option eM) none (some em_13) (Nat.beq mi 13))
        (@Bool.rec (fun _ => Option eM) none (some em_12) (Nat.beq mi 12)) (Nat.blt mi 13)) (Nat.blt mi 14))
      (@Bool.rec (fun _ => Option eM)
       (@Bool.rec (fun _ => Option eM)
        (@Bool.rec (fun _ => Option eM) none (some em_11) (Nat.beq mi 11))
        (@Bool.rec (fun _ => Option eM) none (some em_10) (Nat.beq mi 10)) (Nat.blt mi 11))
       (@Bool.rec (fun _ => Option eM)
        (@Bool.rec (fun _ => Option eM) none (some em_9) (Nat.beq mi 9))
        (@Bool.rec (fun _ => Option eM) none (some em_8) (Nat.beq mi 8)) (Nat.blt mi 9)) (Nat.blt mi 10)) (Nat.blt mi 12))
     (@Bool.rec (fun _ => Option eM)
      (@Bool.rec (fun _ => Option eM)
       (@Bool.rec (fun _ => Option eM)
        (@Bool.rec (fun _ => Option eM) none (some em_7) (Nat.beq mi 7))
        (@Bool.rec (fun _ => Option eM) none (some em_6) (Nat.beq mi 6)) (Nat.blt mi 7))
       (@Bool.rec (fun _ => Option eM)
        (@Bool.rec (fun _ => Option eM) none (some em_5) (Nat.beq mi 5))
        (@Bool.rec (fun _ => Option eM) none (some em_4) (Nat.beq mi 4)) (Nat.blt mi 5)) (Nat.blt mi 6))
      (@Bool.rec (fun _ => Option eM)
       (@Bool.rec (fun _ => Option eM)
        (@Bool.rec (fun _ => Option eM) none (some em_3) (Nat.beq mi 3))
        (@Bool.rec (fun _ => Option eM) none (some em_2) (Nat.beq mi 2)) (Nat.blt mi 3))
       (@Bool.rec (fun _ => Option eM)
        (@Bool.rec (fun _ => Option eM) none (some em_1) (Nat.beq mi 1))
        (@Bool.rec (fun _ => Option eM) none (some em_0) (Nat.beq mi 0)) (Nat.blt mi 1)) (Nat.blt mi 2)) (Nat.blt mi 4)) (Nat.blt mi 8)) (Nat.blt mi 17)) (Nat.blt mi 35)) (Nat.blt mi 70)) (Nat.blt mi 140)
def eNC : Nat := 280
def eMW : List Nat := [123, 427, 447, 458, 466, 475, 502, 506, 514, 583, 690, 749, 781, 793, 800, 804, 809, 813, 818, 822, 827, 839, 843, 848, 857, 861, 870, 874, 886, 890, 898, 904, 913, 917, 922, 933, 941, 949, 953, 962, 970, 978, 986, 997, 1022, 1030, 1043, 1051, 1063, 1068, 1077, 1088, 450, 694, 1093, 1289, 1329, 1333, 1293, 1286, 1297, 1305, 1344, 1313, 1340, 1309, 1317, 1325, 1336, 1321, 1348, 1352, 1392, 1407, 1399, 1395, 1403, 1411, 1388, 1384, 1380, 1376, 1372, 1368, 1364, 1360, 1446, 1443, 1439, 1356, 1435, 1419, 1427, 1423, 1431, 1530, 1522, 1450, 1458, 1542, 1454, 1462, 1415, 1474, 1478, 1486, 1490, 1482, 1494, 1470, 1466, 1514, 1510, 1506, 1502, 1498, 1518, 1526, 1534, 1538, 1551, 1547, 1555, 1559, 1568, 1564, 1576, 1572, 1584, 1580, 1588, 1600, 1596, 1592, 1608, 1604, 1612, 1616, 1621, 1625, 1629, 1633, 1637, 1641, 1657, 1668, 1645, 1649, 1664, 1672, 1676, 1661, 1688, 1684, 1680, 1700, 1696, 1692, 1708, 1704, 1653, 1712, 1300, 1716, 1720, 1728, 1724, 1732, 1737, 1741, 341, 989, 1084, 1005, 1026, 1081, 993, 1001, 1009, 1018, 283, 698, 703, 707, 711, 721, 727, 732, 736, 741, 745, 716, 753, 765, 769, 773, 757, 761, 777, 159, 491, 495, 974, 982, 314, 926, 937, 945, 957, 966, 217, 575, 632, 640, 644, 648, 564, 653, 659, 189, 510, 518, 522, 526, 530, 534, 538, 542, 571, 546, 568, 557, 553, 550, 561, 131, 483, 487, 479, 435, 431, 443, 471, 624, 620, 636, 668, 865, 664, 680, 676, 672, 831, 835, 370, 1035, 1039, 1047, 454, 588, 1055, 1072, 1059, 462, 251, 593, 628, 616, 612, 608, 909, 686, 789, 785, 852, 604, 894, 882, 597, 878]
end
