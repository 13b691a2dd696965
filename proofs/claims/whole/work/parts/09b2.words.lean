theorem zm_0 : zmt.getD 0 zmt0 = (⟨"LateInks$Deed", "<init>", "()V"⟩, prog_2_method_1_code, 1, none) := rfl
theorem zm_1 : zmt.getD 1 zmt0 = (⟨"LateInks$Deed", "become", "(LLateInks$Deed;)V"⟩, prog_2_method_2_code, 2, none) := rfl
theorem zm_2 : zmt.getD 2 zmt0 = (⟨"LateInks$Deed", "beginAt", "(I)V"⟩, prog_2_method_3_code, 2, none) := rfl
theorem zm_3 : zmt.getD 3 zmt0 = (⟨"LateInks$Deed", "isOf", "(I)Z"⟩, prog_2_method_4_code, 2, some .boolean) := rfl
theorem zm_4 : zmt.getD 4 zmt0 = (⟨"LateInks$Deed", "isLike", "(LLateInks$Deed;)Z"⟩, prog_2_method_5_code, 2, some .boolean) := rfl
theorem zm_5 : zmt.getD 5 zmt0 = (⟨"LateInks$Deed", "tell", "(I)I"⟩, prog_2_method_6_code, 2, some .int) := rfl
theorem zm_6 : zmt.getD 6 zmt0 = (⟨"LateInks$Ink", "<init>", "()V"⟩, prog_3_method_1_code, 1, none) := rfl
theorem zm_7 : zmt.getD 7 zmt0 = (⟨"LateInks$Ink", "become", "(LLateInks$Ink;)V"⟩, prog_3_method_2_code, 2, none) := rfl
theorem zm_8 : zmt.getD 8 zmt0 = (⟨"LateInks$Ink", "soaksUp", "(I)I"⟩, prog_3_method_3_code, 2, some .int) := rfl
theorem zm_9 : zmt.getD 9 zmt0 = (⟨"LateInks$Jars", "<init>", "()V"⟩, prog_4_method_1_code, 1, none) := rfl
theorem zm_10 : zmt.getD 10 zmt0 = (⟨"LateInks$Jars", "take", "([II)Z"⟩, prog_4_method_2_code, 4, some .boolean) := rfl
theorem zm_11 : zmt.getD 11 zmt0 = (⟨"LateInks$Jars", "isReadAt", "(III)Z"⟩, prog_4_method_3_code, 3, some .boolean) := rfl
theorem zm_12 : zmt.getD 12 zmt0 = (⟨"LateInks$Jars", "fits", "(II)Z"⟩, prog_4_method_4_code, 4, some .boolean) := rfl
theorem zm_13 : zmt.getD 13 zmt0 = (⟨"LateInks$Jars", "fittingOf", "(LLateInks$Port;I)I"⟩, prog_4_method_5_code, 5, some .int) := rfl
theorem zm_14 : zmt.getD 14 zmt0 = (⟨"LateInks$Jars", "fittingPairs", "(LLateInks$Port;)I"⟩, prog_4_method_6_code, 4, some .int) := rfl
theorem zm_15 : zmt.getD 15 zmt0 = (⟨"LateInks$Jars", "fittingInks", "(LLateInks$Port;)I"⟩, prog_4_method_7_code, 4, some .int) := rfl
theorem zm_16 : zmt.getD 16 zmt0 = (⟨"LateInks$Jars", "countReaders", "(LLateInks$Port;I)V"⟩, prog_4_method_8_code, 7, none) := rfl
theorem zm_17 : zmt.getD 17 zmt0 = (⟨"LateInks$Jars", "bestTime", "(LLateInks$Port;)I"⟩, prog_4_method_9_code, 7, some .int) := rfl
theorem zm_18 : zmt.getD 18 zmt0 = (⟨"LateInks$Law", "<init>", "(I)V"⟩, prog_5_method_1_code, 2, none) := rfl
theorem zm_19 : zmt.getD 19 zmt0 = (⟨"LateInks$Law", "addCode", "(I)V"⟩, prog_5_method_2_code, 2, none) := rfl
theorem zm_20 : zmt.getD 20 zmt0 = (⟨"LateInks$Law", "addLine", "(II)V"⟩, prog_5_method_3_code, 3, none) := rfl
theorem zm_21 : zmt.getD 21 zmt0 = (⟨"LateInks$Law", "total", "(I[I)I"⟩, prog_5_method_4_code, 6, some .int) := rfl
theorem zm_22 : zmt.getD 22 zmt0 = (⟨"LateInks$Law", "holds", "(II[I)Z"⟩, prog_5_method_5_code, 7, some .boolean) := rfl
theorem zm_23 : zmt.getD 23 zmt0 = (⟨"LateInks$Law", "joined", "(III)I"⟩, prog_5_method_6_code, 3, some .int) := rfl
theorem zm_24 : zmt.getD 24 zmt0 = (⟨"LateInks$LawText", "readInto", "(LLateInks$Law;LLateInks$Reader;)V"⟩, prog_6_method_2_code, 5, none) := rfl
theorem zm_25 : zmt.getD 25 zmt0 = (⟨"LateInks$LawText", "needKind", "(LLateInks$Reader;)I"⟩, prog_6_method_3_code, 1, some .int) := rfl
theorem zm_26 : zmt.getD 26 zmt0 = (⟨"LateInks$LawText", "readCondition", "(LLateInks$Law;LLateInks$Reader;I)V"⟩, prog_6_method_4_code, 5, none) := rfl
theorem zm_27 : zmt.getD 27 zmt0 = (⟨"LateInks$LawText", "readAtom", "(LLateInks$Law;LLateInks$Reader;I)V"⟩, prog_6_method_5_code, 5, none) := rfl
theorem zm_28 : zmt.getD 28 zmt0 = (⟨"LateInks$LawText", "readSum", "(LLateInks$Law;LLateInks$Reader;)V"⟩, prog_6_method_6_code, 4, none) := rfl
theorem zm_29 : zmt.getD 29 zmt0 = (⟨"LateInks$LawText", "readSum", "(LLateInks$Law;LLateInks$Reader;)V"⟩, prog_6_method_6_code, 4, none) := rfl
theorem zm_30 : zmt.getD 30 zmt0 = (⟨"LateInks$LawText", "factAtWord", "(LLateInks$Reader;)I"⟩, prog_6_method_7_code, 1, some .int) := rfl
theorem zm_31 : zmt.getD 31 zmt0 = (⟨"LateInks$LogBook", "<init>", "()V"⟩, prog_7_method_1_code, 1, none) := rfl
theorem zm_32 : zmt.getD 32 zmt0 = (⟨"LateInks$LogBook", "become", "(LLateInks$LogBook;)V"⟩, prog_7_method_2_code, 2, none) := rfl
theorem zm_33 : zmt.getD 33 zmt0 = (⟨"LateInks$LogBook", "add", "(IIII)V"⟩, prog_7_method_3_code, 6, none) := rfl
theorem zm_34 : zmt.getD 34 zmt0 = (⟨"LateInks$LogBook", "tell", "(II)I"⟩, prog_7_method_4_code, 4, some .int) := rfl
theorem zm_35 : zmt.getD 35 zmt0 = (⟨"LateInks$LogBook", "rowsOf", "(I)I"⟩, prog_7_method_5_code, 4, some .int) := rfl
theorem zm_36 : zmt.getD 36 zmt0 = (⟨"LateInks$LogBook", "latestTimeOf", "(I)I"⟩, prog_7_method_6_code, 3, some .int) := rfl
theorem zm_37 : zmt.getD 37 zmt0 = (⟨"LateInks$Market", "<init>", "()V"⟩, prog_8_method_1_code, 1, none) := rfl
theorem zm_38 : zmt.getD 38 zmt0 = (⟨"LateInks$Market", "open", "(LLateInks$Port;[I)V"⟩, prog_8_method_2_code, 5, none) := rfl
theorem zm_39 : zmt.getD 39 zmt0 = (⟨"LateInks$Market", "fillMost", "(LLateInks$Port;II)V"⟩, prog_8_method_3_code, 6, none) := rfl
theorem zm_40 : zmt.getD 40 zmt0 = (⟨"LateInks$Market", "mayBuy", "(LLateInks$Port;III)Z"⟩, prog_8_method_4_code, 6, some .boolean) := rfl
theorem zm_41 : zmt.getD 41 zmt0 = (⟨"LateInks$Market", "sold", "(III)I"⟩, prog_8_method_5_code, 4, some .int) := rfl
theorem zm_42 : zmt.getD 42 zmt0 = (⟨"LateInks$Market", "most", "()I"⟩, prog_8_method_6_code, 1, some .int) := rfl
theorem zm_43 : zmt.getD 43 zmt0 = (⟨"LateInks$Market", "buyerOf", "(LLateInks$Port;I)I"⟩, prog_8_method_7_code, 6, some .int) := rfl
theorem zm_44 : zmt.getD 44 zmt0 = (⟨"LateInks$Market", "firstBuyer", "(LLateInks$Port;II)I"⟩, prog_8_method_8_code, 6, some .int) := rfl
theorem zm_45 : zmt.getD 45 zmt0 = (⟨"LateInks$Party", "<init>", "()V"⟩, prog_9_method_1_code, 1, none) := rfl
theorem zm_46 : zmt.getD 46 zmt0 = (⟨"LateInks$Party", "become", "(LLateInks$Party;)V"⟩, prog_9_method_2_code, 2, none) := rfl
theorem zm_47 : zmt.getD 47 zmt0 = (⟨"LateInks$Port", "<init>", "()V"⟩, prog_10_method_1_code, 2, none) := rfl
theorem zm_48 : zmt.getD 48 zmt0 = (⟨"LateInks$Port", "become", "(LLateInks$Port;)V"⟩, prog_10_method_2_code, 3, none) := rfl
theorem zm_49 : zmt.getD 49 zmt0 = (⟨"LateInks$Port", "addDeed", "()LLateInks$Deed;"⟩, prog_10_method_3_code, 2, some (.object "LateInks$Deed")) := rfl
theorem zm_50 : zmt.getD 50 zmt0 = (⟨"LateInks$Port", "drawSpray", "()I"⟩, prog_10_method_4_code, 2, some .int) := rfl
theorem zm_51 : zmt.getD 51 zmt0 = (⟨"LateInks$Port", "passSeason", "(I)I"⟩, prog_10_method_5_code, 3, some .int) := rfl
theorem zm_52 : zmt.getD 52 zmt0 = (⟨"LateInks$Port", "ripenBlankDeeds", "(I)V"⟩, prog_10_method_6_code, 4, none) := rfl
theorem zm_53 : zmt.getD 53 zmt0 = (⟨"LateInks$Port", "fadeOldDeeds", "()V"⟩, prog_10_method_7_code, 4, none) := rfl
theorem zm_54 : zmt.getD 54 zmt0 = (⟨"LateInks$Port", "payDueDeeds", "()I"⟩, prog_10_method_8_code, 5, some .int) := rfl
theorem zm_55 : zmt.getD 55 zmt0 = (⟨"LateInks$Port", "pay", "(I)V"⟩, prog_10_method_9_code, 7, none) := rfl
theorem zm_56 : zmt.getD 56 zmt0 = (⟨"LateInks$Port", "comeUp", "(I)V"⟩, prog_10_method_10_code, 2, none) := rfl
theorem zm_57 : zmt.getD 57 zmt0 = (⟨"LateInks$Port", "halveNextBlank", "(I)V"⟩, prog_10_method_11_code, 3, none) := rfl
theorem zm_58 : zmt.getD 58 zmt0 = (⟨"LateInks$Port", "ripensBy", "(I)I"⟩, prog_10_method_12_code, 3, some .int) := rfl
theorem zm_59 : zmt.getD 59 zmt0 = (⟨"LateInks$Port", "costsOf", "(I)I"⟩, prog_10_method_13_code, 3, some .int) := rfl
theorem zm_60 : zmt.getD 60 zmt0 = (⟨"LateInks$Port", "lookAt", "(I)V"⟩, prog_10_method_14_code, 4, none) := rfl
theorem zm_61 : zmt.getD 61 zmt0 = (⟨"LateInks$Port", "inState", "(I)I"⟩, prog_10_method_15_code, 4, some .int) := rfl
theorem zm_62 : zmt.getD 62 zmt0 = (⟨"LateInks$Port", "paidDeeds", "()I"⟩, prog_10_method_16_code, 3, some .int) := rfl
theorem zm_63 : zmt.getD 63 zmt0 = (⟨"LateInks$Port", "deedsOfInk", "(I)I"⟩, prog_10_method_17_code, 4, some .int) := rfl
theorem zm_64 : zmt.getD 64 zmt0 = (⟨"LateInks$Port", "chainOf", "(I)I"⟩, prog_10_method_18_code, 4, some .int) := rfl
theorem zm_65 : zmt.getD 65 zmt0 = (⟨"LateInks$Port", "isValid", "(II)Z"⟩, prog_10_method_19_code, 4, some .boolean) := rfl
theorem zm_66 : zmt.getD 66 zmt0 = (⟨"LateInks$Port", "readingOf", "(I)I"⟩, prog_10_method_20_code, 2, some .int) := rfl
theorem zm_67 : zmt.getD 67 zmt0 = (⟨"LateInks$Port", "netOf", "(II)I"⟩, prog_10_method_21_code, 6, some .int) := rfl
theorem zm_68 : zmt.getD 68 zmt0 = (⟨"LateInks$Port", "leastNet", "(I)I"⟩, prog_10_method_22_code, 6, some .int) := rfl
theorem zm_69 : zmt.getD 69 zmt0 = (⟨"LateInks$Port", "bestReading", "(I)I"⟩, prog_10_method_23_code, 8, some .int) := rfl
theorem zm_70 : zmt.getD 70 zmt0 = (⟨"LateInks$Port", "meanNet", "(I)I"⟩, prog_10_method_24_code, 7, some .int) := rfl
theorem zm_71 : zmt.getD 71 zmt0 = (⟨"LateInks$Port", "showsAt", "(II)I"⟩, prog_10_method_25_code, 6, some .int) := rfl
theorem zm_72 : zmt.getD 72 zmt0 = (⟨"LateInks$Port", "tellsInksApart", "(I)Z"⟩, prog_10_method_26_code, 4, some .boolean) := rfl
theorem zm_73 : zmt.getD 73 zmt0 = (⟨"LateInks$Port", "differIn", "(LLateInks$Ink;LLateInks$Ink;I)Z"⟩, prog_10_method_27_code, 5, some .boolean) := rfl
theorem zm_74 : zmt.getD 74 zmt0 = (⟨"LateInks$Port", "allCoins", "()I"⟩, prog_10_method_28_code, 3, some .int) := rfl
theorem zm_75 : zmt.getD 75 zmt0 = (⟨"LateInks$Port", "shareOf", "(I)I"⟩, prog_10_method_29_code, 3, some .int) := rfl
theorem zm_76 : zmt.getD 76 zmt0 = (⟨"LateInks$Port", "brokeParties", "()I"⟩, prog_10_method_30_code, 3, some .int) := rfl
theorem zm_77 : zmt.getD 77 zmt0 = (⟨"LateInks$Port", "debtOf", "(II)I"⟩, prog_10_method_31_code, 7, some .int) := rfl
theorem zm_78 : zmt.getD 78 zmt0 = (⟨"LateInks$Port", "creditorsOf", "(I)I"⟩, prog_10_method_32_code, 4, some .int) := rfl
theorem zm_79 : zmt.getD 79 zmt0 = (⟨"LateInks$Port", "clearedWithout", "(I)I"⟩, prog_10_method_33_code, 8, some .int) := rfl
theorem zm_80 : zmt.getD 80 zmt0 = (⟨"LateInks$Port", "priceOf", "(II)I"⟩, prog_10_method_34_code, 4, some .int) := rfl
theorem zm_81 : zmt.getD 81 zmt0 = (⟨"LateInks$Port", "gainOf", "(IIZZ)I"⟩, prog_10_method_35_code, 8, some .int) := rfl
theorem zm_82 : zmt.getD 82 zmt0 = (⟨"LateInks$PortText", "readInto", "(LLateInks$Port;LLateInks$Reader;)V"⟩, prog_11_method_2_code, 3, none) := rfl
theorem zm_83 : zmt.getD 83 zmt0 = (⟨"LateInks$PortText", "readLine", "(LLateInks$Port;LLateInks$Reader;)V"⟩, prog_11_method_3_code, 3, none) := rfl
theorem zm_84 : zmt.getD 84 zmt0 = (⟨"LateInks$PortText", "readParty", "(LLateInks$Port;LLateInks$Reader;)V"⟩, prog_11_method_4_code, 3, none) := rfl
theorem zm_85 : zmt.getD 85 zmt0 = (⟨"LateInks$PortText", "readInk", "(LLateInks$Port;LLateInks$Reader;)V"⟩, prog_11_method_5_code, 3, none) := rfl
theorem zm_86 : zmt.getD 86 zmt0 = (⟨"LateInks$PortText", "readDeed", "(LLateInks$Port;LLateInks$Reader;)V"⟩, prog_11_method_6_code, 4, none) := rfl
theorem zm_87 : zmt.getD 87 zmt0 = (⟨"LateInks$PortText", "readTime", "(LLateInks$Port;LLateInks$Reader;)V"⟩, prog_11_method_7_code, 2, none) := rfl
theorem zm_88 : zmt.getD 88 zmt0 = (⟨"LateInks$PortText", "needSeason", "(LLateInks$Reader;)I"⟩, prog_11_method_8_code, 1, some .int) := rfl
theorem zm_89 : zmt.getD 89 zmt0 = (⟨"LateInks$Reader", "<init>", "()V"⟩, prog_12_method_1_code, 1, none) := rfl
theorem zm_90 : zmt.getD 90 zmt0 = (⟨"LateInks$Reader", "open", "([II)V"⟩, prog_12_method_2_code, 3, none) := rfl
theorem zm_91 : zmt.getD 91 zmt0 = (⟨"LateInks$Reader", "advance", "()V"⟩, prog_12_method_3_code, 1, none) := rfl
theorem zm_92 : zmt.getD 92 zmt0 = (⟨"LateInks$Reader", "isAtWord", "(Ljava/lang/String;)Z"⟩, prog_12_method_4_code, 3, some .boolean) := rfl
theorem zm_93 : zmt.getD 93 zmt0 = (⟨"LateInks$Reader", "isAtSign", "(C)Z"⟩, prog_12_method_5_code, 2, some .boolean) := rfl
theorem zm_94 : zmt.getD 94 zmt0 = (⟨"LateInks$Reader", "takesWord", "(Ljava/lang/String;)Z"⟩, prog_12_method_6_code, 3, some .boolean) := rfl
theorem zm_95 : zmt.getD 95 zmt0 = (⟨"LateInks$Reader", "needWord", "(Ljava/lang/String;)V"⟩, prog_12_method_7_code, 2, none) := rfl
theorem zm_96 : zmt.getD 96 zmt0 = (⟨"LateInks$Reader", "needSign", "(C)V"⟩, prog_12_method_8_code, 2, none) := rfl
theorem zm_97 : zmt.getD 97 zmt0 = (⟨"LateInks$Reader", "needNumber", "(II)I"⟩, prog_12_method_9_code, 4, some .int) := rfl
theorem zm_98 : zmt.getD 98 zmt0 = (⟨"LateInks$Reader", "goesOn", "()Z"⟩, prog_12_method_10_code, 1, some .boolean) := rfl
theorem zm_99 : zmt.getD 99 zmt0 = (⟨"LateInks$Reader", "refuse", "()V"⟩, prog_12_method_11_code, 1, none) := rfl
theorem zm_100 : zmt.getD 100 zmt0 = (⟨"LateInks", "<init>", "()V"⟩, prog_1_method_1_code, 2, none) := rfl
theorem zm_101 : zmt.getD 101 zmt0 = (⟨"LateInks", "feed", "(IIIII)I"⟩, prog_1_method_2_code, 6, some .int) := rfl
theorem zm_102 : zmt.getD 102 zmt0 = (⟨"LateInks", "end", "(I)Z"⟩, prog_1_method_3_code, 2, some .boolean) := rfl
theorem zm_103 : zmt.getD 103 zmt0 = (⟨"LateInks", "port", "()I"⟩, prog_1_method_4_code, 1, some .int) := rfl
theorem zm_104 : zmt.getD 104 zmt0 = (⟨"LateInks", "law", "()I"⟩, prog_1_method_5_code, 2, some .int) := rfl
theorem zm_105 : zmt.getD 105 zmt0 = (⟨"LateInks", "fault", "()I"⟩, prog_1_method_6_code, 1, some .int) := rfl
theorem zm_106 : zmt.getD 106 zmt0 = (⟨"LateInks", "party", "(II)I"⟩, prog_1_method_7_code, 3, some .int) := rfl
theorem zm_107 : zmt.getD 107 zmt0 = (⟨"LateInks", "ink", "(II)I"⟩, prog_1_method_8_code, 3, some .int) := rfl
theorem zm_108 : zmt.getD 108 zmt0 = (⟨"LateInks", "deed", "(II)I"⟩, prog_1_method_9_code, 3, some .int) := rfl
theorem zm_109 : zmt.getD 109 zmt0 = (⟨"LateInks", "seasons", "(I)I"⟩, prog_1_method_10_code, 4, some .int) := rfl
theorem zm_110 : zmt.getD 110 zmt0 = (⟨"LateInks", "write", "(IIIII)I"⟩, prog_1_method_11_code, 7, some .int) := rfl
theorem zm_111 : zmt.getD 111 zmt0 = (⟨"LateInks", "warm", "(II)I"⟩, prog_1_method_12_code, 4, some .int) := rfl
theorem zm_112 : zmt.getD 112 zmt0 = (⟨"LateInks", "burn", "(I)I"⟩, prog_1_method_13_code, 3, some .int) := rfl
theorem zm_113 : zmt.getD 113 zmt0 = (⟨"LateInks", "lend", "(III)I"⟩, prog_1_method_14_code, 4, some .int) := rfl
theorem zm_114 : zmt.getD 114 zmt0 = (⟨"LateInks", "salt", "(I)I"⟩, prog_1_method_15_code, 3, some .int) := rfl
theorem zm_115 : zmt.getD 115 zmt0 = (⟨"LateInks", "bar", "(II)I"⟩, prog_1_method_16_code, 4, some .int) := rfl
theorem zm_116 : zmt.getD 116 zmt0 = (⟨"LateInks", "reads", "()I"⟩, prog_1_method_17_code, 1, some .int) := rfl
theorem zm_117 : zmt.getD 117 zmt0 = (⟨"LateInks", "blank", "()I"⟩, prog_1_method_18_code, 1, some .int) := rfl
theorem zm_118 : zmt.getD 118 zmt0 = (⟨"LateInks", "valid", "()I"⟩, prog_1_method_19_code, 4, some .int) := rfl
theorem zm_119 : zmt.getD 119 zmt0 = (⟨"LateInks", "when", "(I)I"⟩, prog_1_method_20_code, 2, some .int) := rfl
theorem zm_120 : zmt.getD 120 zmt0 = (⟨"LateInks", "due", "(I)I"⟩, prog_1_method_21_code, 3, some .int) := rfl
theorem zm_121 : zmt.getD 121 zmt0 = (⟨"LateInks", "ruin", "(Z)I"⟩, prog_1_method_22_code, 4, some .int) := rfl
theorem zm_122 : zmt.getD 122 zmt0 = (⟨"LateInks", "wealth", "(II)I"⟩, prog_1_method_23_code, 3, some .int) := rfl
theorem zm_123 : zmt.getD 123 zmt0 = (⟨"LateInks", "chain", "(I)I"⟩, prog_1_method_24_code, 2, some .int) := rfl
theorem zm_124 : zmt.getD 124 zmt0 = (⟨"LateInks", "hangs", "(I)I"⟩, prog_1_method_25_code, 4, some .int) := rfl
theorem zm_125 : zmt.getD 125 zmt0 = (⟨"LateInks", "late", "()I"⟩, prog_1_method_26_code, 4, some .int) := rfl
theorem zm_126 : zmt.getD 126 zmt0 = (⟨"LateInks", "net", "(II)I"⟩, prog_1_method_27_code, 3, some .int) := rfl
theorem zm_127 : zmt.getD 127 zmt0 = (⟨"LateInks", "worth", "(IIZ)I"⟩, prog_1_method_28_code, 10, some .int) := rfl
theorem zm_128 : zmt.getD 128 zmt0 = (⟨"LateInks", "jars", "(Z)I"⟩, prog_1_method_29_code, 2, some .int) := rfl
theorem zm_129 : zmt.getD 129 zmt0 = (⟨"LateInks", "ask", "()I"⟩, prog_1_method_30_code, 1, some .int) := rfl
theorem zm_130 : zmt.getD 130 zmt0 = (⟨"LateInks", "forged", "(I)Z"⟩, prog_1_method_31_code, 3, some .boolean) := rfl
theorem zm_131 : zmt.getD 131 zmt0 = (⟨"LateInks", "apart", "()I"⟩, prog_1_method_32_code, 4, some .int) := rfl
theorem zm_132 : zmt.getD 132 zmt0 = (⟨"LateInks", "soonest", "(Z)I"⟩, prog_1_method_33_code, 6, some .int) := rfl
theorem zm_133 : zmt.getD 133 zmt0 = (⟨"LateInks", "owes", "(II)I"⟩, prog_1_method_34_code, 3, some .int) := rfl
theorem zm_134 : zmt.getD 134 zmt0 = (⟨"LateInks", "cleared", "()I"⟩, prog_1_method_35_code, 1, some .int) := rfl
theorem zm_135 : zmt.getD 135 zmt0 = (⟨"LateInks", "ring", "(I)Z"⟩, prog_1_method_36_code, 5, some .boolean) := rfl
theorem zm_136 : zmt.getD 136 zmt0 = (⟨"LateInks", "pivot", "()I"⟩, prog_1_method_37_code, 5, some .int) := rfl
theorem zm_137 : zmt.getD 137 zmt0 = (⟨"LateInks", "buyers", "(I)I"⟩, prog_1_method_38_code, 2, some .int) := rfl
theorem zm_138 : zmt.getD 138 zmt0 = (⟨"LateInks", "rests", "(III)I"⟩, prog_1_method_39_code, 8, some .int) := rfl
theorem zm_139 : zmt.getD 139 zmt0 = (⟨"LateInks", "odds", "(II)I"⟩, prog_1_method_40_code, 6, some .int) := rfl
theorem zm_140 : zmt.getD 140 zmt0 = (⟨"LateInks", "early", "(I)I"⟩, prog_1_method_41_code, 4, some .int) := rfl
theorem zm_141 : zmt.getD 141 zmt0 = (⟨"LateInks", "richest", "()I"⟩, prog_1_method_42_code, 4, some .int) := rfl
theorem zm_142 : zmt.getD 142 zmt0 = (⟨"LateInks", "alike", "()I"⟩, prog_1_method_43_code, 4, some .int) := rfl
theorem zm_143 : zmt.getD 143 zmt0 = (⟨"LateInks", "broken", "()I"⟩, prog_1_method_44_code, 1, some .int) := rfl
theorem zm_144 : zmt.getD 144 zmt0 = (⟨"LateInks", "ahead", "(III)I"⟩, prog_1_method_45_code, 5, some .int) := rfl
theorem zm_145 : zmt.getD 145 zmt0 = (⟨"LateInks", "trial", "(IZ)I"⟩, prog_1_method_46_code, 3, some .int) := rfl
theorem zm_146 : zmt.getD 146 zmt0 = (⟨"LateInks", "span", "(IZ)I"⟩, prog_1_method_47_code, 7, some .int) := rfl
theorem zm_147 : zmt.getD 147 zmt0 = (⟨"LateInks", "led", "(IZ)I"⟩, prog_1_method_48_code, 3, some .int) := rfl
theorem zm_148 : zmt.getD 148 zmt0 = (⟨"LateInks", "log", "(II)I"⟩, prog_1_method_49_code, 3, some .int) := rfl
theorem zm_149 : zmt.getD 149 zmt0 = (⟨"LateInks", "damp", "(I)I"⟩, prog_1_method_50_code, 2, some .int) := rfl
theorem zm_150 : zmt.getD 150 zmt0 = (⟨"LateInks", "seed", "(I)I"⟩, prog_1_method_51_code, 3, some .int) := rfl
theorem zm_151 : zmt.getD 151 zmt0 = (⟨"LateInks", "undo", "()Z"⟩, prog_1_method_52_code, 1, some .boolean) := rfl
theorem zm_152 : zmt.getD 152 zmt0 = (⟨"LateInks", "image", "()V"⟩, prog_1_method_53_code, 1, none) := rfl
theorem zm_153 : zmt.getD 153 zmt0 = (⟨"LateInks", "back", "()Z"⟩, prog_1_method_54_code, 1, some .boolean) := rfl
theorem zm_154 : zmt.getD 154 zmt0 = (⟨"LateInks", "count", "(I)I"⟩, prog_1_method_55_code, 2, some .int) := rfl
theorem zm_155 : zmt.getD 155 zmt0 = (⟨"LateInks", "needParty", "(I)V"⟩, prog_1_method_56_code, 2, none) := rfl
theorem zm_156 : zmt.getD 156 zmt0 = (⟨"LateInks", "needInk", "(I)V"⟩, prog_1_method_57_code, 2, none) := rfl
theorem zm_157 : zmt.getD 157 zmt0 = (⟨"LateInks", "needDeed", "(I)V"⟩, prog_1_method_58_code, 2, none) := rfl
theorem zm_158 : zmt.getD 158 zmt0 = (⟨"LateInks", "needTwo", "(II)V"⟩, prog_1_method_59_code, 2, none) := rfl
theorem zm_159 : zmt.getD 159 zmt0 = (⟨"LateInks", "needSpan", "(I)V"⟩, prog_1_method_60_code, 1, none) := rfl
theorem zm_160 : zmt.getD 160 zmt0 = (⟨"LateInks", "putBytes", "(I)V"⟩, prog_1_method_61_code, 3, none) := rfl
theorem zm_161 : zmt.getD 161 zmt0 = (⟨"LateInks", "readSheets", "()V"⟩, prog_1_method_62_code, 2, none) := rfl
theorem zm_162 : zmt.getD 162 zmt0 = (⟨"LateInks", "rememberAct", "()V"⟩, prog_1_method_63_code, 1, none) := rfl
theorem zm_163 : zmt.getD 163 zmt0 = (⟨"LateInks", "forgetActs", "()V"⟩, prog_1_method_64_code, 1, none) := rfl
theorem zm_164 : zmt.getD 164 zmt0 = (⟨"LateInks", "goAhead", "(I)V"⟩, prog_1_method_65_code, 3, none) := rfl
theorem zm_165 : zmt.getD 165 zmt0 = (⟨"LateInks", "tryOut", "(II)V"⟩, prog_1_method_66_code, 4, none) := rfl
theorem zm_166 : zmt.getD 166 zmt0 = (⟨"LateInks", "fillWhens", "(I)V"⟩, prog_1_method_67_code, 4, none) := rfl
theorem zm_167 : zmt.getD 167 zmt0 = (⟨"LateInks", "fillCosts", "()V"⟩, prog_1_method_68_code, 2, none) := rfl
theorem zm_168 : zmt.getD 168 zmt0 = (⟨"LateInks", "costsOfSet", "(I)I"⟩, prog_1_method_69_code, 4, some .int) := rfl
theorem zm_169 : zmt.getD 169 zmt0 = (⟨"LateInks", "leastOf", "(I)I"⟩, prog_1_method_70_code, 2, some .int) := rfl
theorem zm_170 : zmt.getD 170 zmt0 = (⟨"LateInks", "power", "(II)J"⟩, prog_1_method_71_code, 5, some .long) := rfl
theorem zm_171 : zmt.getD 171 zmt0 = (⟨"LateInks", "choose", "(II)J"⟩, prog_1_method_72_code, 5, some .long) := rfl
theorem zm_172 : zmt.getD 172 zmt0 = (⟨"LateInksModel", "<init>", "()V"⟩, prog_14_method_1_code, 2, none) := rfl
theorem zm_173 : zmt.getD 173 zmt0 = (⟨"LateInksModel", "thrown", "()I"⟩, prog_14_method_2_code, 1, some .int) := rfl
theorem zm_174 : zmt.getD 174 zmt0 = (⟨"LateInksModel", "isIn", "(III)Z"⟩, prog_14_method_3_code, 3, some .boolean) := rfl
theorem zm_175 : zmt.getD 175 zmt0 = (⟨"LateInksModel", "lesser", "(II)I"⟩, prog_14_method_4_code, 2, some .int) := rfl
theorem zm_176 : zmt.getD 176 zmt0 = (⟨"LateInksModel", "greater", "(II)I"⟩, prog_14_method_5_code, 2, some .int) := rfl
theorem zm_177 : zmt.getD 177 zmt0 = (⟨"LateInksModel", "isOf", "(II)Z"⟩, prog_14_method_6_code, 2, some .boolean) := rfl
theorem zm_178 : zmt.getD 178 zmt0 = (⟨"LateInksModel", "bits", "(I)I"⟩, prog_14_method_7_code, 3, some .int) := rfl
theorem zm_179 : zmt.getD 179 zmt0 = (⟨"LateInksModel", "of", "(II)I"⟩, prog_14_method_8_code, 3, some .int) := rfl
theorem zm_180 : zmt.getD 180 zmt0 = (⟨"LateInksModel", "lays", "(III)V"⟩, prog_14_method_9_code, 4, none) := rfl
theorem zm_181 : zmt.getD 181 zmt0 = (⟨"LateInksModel", "ofInk", "(II)I"⟩, prog_14_method_10_code, 3, some .int) := rfl
theorem zm_182 : zmt.getD 182 zmt0 = (⟨"LateInksModel", "coins", "(I)I"⟩, prog_14_method_11_code, 2, some .int) := rfl
theorem zm_183 : zmt.getD 183 zmt0 = (⟨"LateInksModel", "isParty", "(I)Z"⟩, prog_14_method_12_code, 2, some .boolean) := rfl
theorem zm_184 : zmt.getD 184 zmt0 = (⟨"LateInksModel", "isInk", "(I)Z"⟩, prog_14_method_13_code, 2, some .boolean) := rfl
theorem zm_185 : zmt.getD 185 zmt0 = (⟨"LateInksModel", "isDeed", "(I)Z"⟩, prog_14_method_14_code, 2, some .boolean) := rfl
theorem zm_186 : zmt.getD 186 zmt0 = (⟨"LateInksModel", "inState", "(I)I"⟩, prog_14_method_15_code, 4, some .int) := rfl
theorem zm_187 : zmt.getD 187 zmt0 = (⟨"LateInksModel", "isValid", "(II)Z"⟩, prog_14_method_16_code, 4, some .boolean) := rfl
theorem zm_188 : zmt.getD 188 zmt0 = (⟨"LateInksModel", "isValidNow", "(I)Z"⟩, prog_14_method_17_code, 2, some .boolean) := rfl
theorem zm_189 : zmt.getD 189 zmt0 = (⟨"LateInksModel", "soaked", "(II)I"⟩, prog_14_method_18_code, 3, some .int) := rfl
theorem zm_190 : zmt.getD 190 zmt0 = (⟨"LateInksModel", "feed", "(IIIII)I"⟩, prog_14_method_19_code, 8, some .int) := rfl
theorem zm_191 : zmt.getD 191 zmt0 = (⟨"LateInksModel", "end", "(I)Z"⟩, prog_14_method_20_code, 2, some .boolean) := rfl
theorem zm_192 : zmt.getD 192 zmt0 = (⟨"LateInksModel", "letter", "(I)I"⟩, prog_14_method_21_code, 2, some .int) := rfl
theorem zm_193 : zmt.getD 193 zmt0 = (⟨"LateInksModel", "skip", "()V"⟩, prog_14_method_22_code, 1, none) := rfl
theorem zm_194 : zmt.getD 194 zmt0 = (⟨"LateInksModel", "isSign", "(I)Z"⟩, prog_14_method_23_code, 2, some .boolean) := rfl
theorem zm_195 : zmt.getD 195 zmt0 = (⟨"LateInksModel", "has", "(Ljava/lang/String;)Z"⟩, prog_14_method_24_code, 4, some .boolean) := rfl
theorem zm_196 : zmt.getD 196 zmt0 = (⟨"LateInksModel", "wrong", "(I)V"⟩, prog_14_method_25_code, 2, none) := rfl
theorem zm_197 : zmt.getD 197 zmt0 = (⟨"LateInksModel", "here", "()I"⟩, prog_14_method_26_code, 1, some .int) := rfl
theorem zm_198 : zmt.getD 198 zmt0 = (⟨"LateInksModel", "figures", "(II)I"⟩, prog_14_method_27_code, 5, some .int) := rfl
theorem zm_199 : zmt.getD 199 zmt0 = (⟨"LateInksModel", "after", "(Ljava/lang/String;II)I"⟩, prog_14_method_28_code, 4, some .int) := rfl
theorem zm_200 : zmt.getD 200 zmt0 = (⟨"LateInksModel", "partyLine", "(I)V"⟩, prog_14_method_29_code, 3, none) := rfl
theorem zm_201 : zmt.getD 201 zmt0 = (⟨"LateInksModel", "maybe", "(Ljava/lang/String;III)I"⟩, prog_14_method_30_code, 5, some .int) := rfl
theorem zm_202 : zmt.getD 202 zmt0 = (⟨"LateInksModel", "inkLine", "(I)V"⟩, prog_14_method_31_code, 6, none) := rfl
theorem zm_203 : zmt.getD 203 zmt0 = (⟨"LateInksModel", "expects", "(Ljava/lang/String;)Z"⟩, prog_14_method_32_code, 3, some .boolean) := rfl
theorem zm_204 : zmt.getD 204 zmt0 = (⟨"LateInksModel", "deedLine", "(I)V"⟩, prog_14_method_33_code, 11, none) := rfl
theorem zm_205 : zmt.getD 205 zmt0 = (⟨"LateInksModel", "adds", "(IIIIIII)V"⟩, prog_14_method_34_code, 9, none) := rfl
theorem zm_206 : zmt.getD 206 zmt0 = (⟨"LateInksModel", "dampLine", "()V"⟩, prog_14_method_35_code, 3, none) := rfl
theorem zm_207 : zmt.getD 207 zmt0 = (⟨"LateInksModel", "tells", "(III)V"⟩, prog_14_method_36_code, 5, none) := rfl
theorem zm_208 : zmt.getD 208 zmt0 = (⟨"LateInksModel", "portLine", "()V"⟩, prog_14_method_37_code, 2, none) := rfl
theorem zm_209 : zmt.getD 209 zmt0 = (⟨"LateInksModel", "begins", "()V"⟩, prog_14_method_38_code, 1, none) := rfl
theorem zm_210 : zmt.getD 210 zmt0 = (⟨"LateInksModel", "read", "(Z)I"⟩, prog_14_method_39_code, 4, some .int) := rfl
theorem zm_211 : zmt.getD 211 zmt0 = (⟨"LateInksModel", "putsAside", "()V"⟩, prog_14_method_40_code, 2, none) := rfl
theorem zm_212 : zmt.getD 212 zmt0 = (⟨"LateInksModel", "comesBack", "()V"⟩, prog_14_method_41_code, 2, none) := rfl
theorem zm_213 : zmt.getD 213 zmt0 = (⟨"LateInksModel", "port", "()I"⟩, prog_14_method_42_code, 2, some .int) := rfl
theorem zm_214 : zmt.getD 214 zmt0 = (⟨"LateInksModel", "part", "()I"⟩, prog_14_method_43_code, 2, some .int) := rfl
theorem zm_215 : zmt.getD 215 zmt0 = (⟨"LateInksModel", "sum", "()I"⟩, prog_14_method_44_code, 2, some .int) := rfl
theorem zm_216 : zmt.getD 216 zmt0 = (⟨"LateInksModel", "plain", "()Z"⟩, prog_14_method_45_code, 4, some .boolean) := rfl
theorem zm_217 : zmt.getD 217 zmt0 = (⟨"LateInksModel", "atom", "()Z"⟩, prog_14_method_46_code, 4, some .boolean) := rfl
theorem zm_218 : zmt.getD 218 zmt0 = (⟨"LateInksModel", "every", "()Z"⟩, prog_14_method_47_code, 3, some .boolean) := rfl
theorem zm_219 : zmt.getD 219 zmt0 = (⟨"LateInksModel", "some", "()Z"⟩, prog_14_method_48_code, 3, some .boolean) := rfl
theorem zm_220 : zmt.getD 220 zmt0 = (⟨"LateInksModel", "lawLine", "()V"⟩, prog_14_method_49_code, 4, none) := rfl
theorem zm_221 : zmt.getD 221 zmt0 = (⟨"LateInksModel", "law", "()I"⟩, prog_14_method_50_code, 3, some .int) := rfl
theorem zm_222 : zmt.getD 222 zmt0 = (⟨"LateInksModel", "fault", "()I"⟩, prog_14_method_51_code, 1, some .int) := rfl
theorem zm_223 : zmt.getD 223 zmt0 = (⟨"LateInksModel", "asks", "(I)V"⟩, prog_14_method_52_code, 5, none) := rfl
theorem zm_224 : zmt.getD 224 zmt0 = (⟨"LateInksModel", "costsOf", "(I)I"⟩, prog_14_method_53_code, 2, some .int) := rfl
theorem zm_225 : zmt.getD 225 zmt0 = (⟨"LateInksModel", "draw", "(I)I"⟩, prog_14_method_54_code, 2, some .int) := rfl
theorem zm_226 : zmt.getD 226 zmt0 = (⟨"LateInksModel", "logs", "(III)V"⟩, prog_14_method_55_code, 5, none) := rfl
theorem zm_227 : zmt.getD 227 zmt0 = (⟨"LateInksModel", "comesUp", "(I)V"⟩, prog_14_method_56_code, 2, none) := rfl
theorem zm_228 : zmt.getD 228 zmt0 = (⟨"LateInksModel", "pays", "(I)V"⟩, prog_14_method_57_code, 5, none) := rfl
theorem zm_229 : zmt.getD 229 zmt0 = (⟨"LateInksModel", "passes", "(Z)I"⟩, prog_14_method_58_code, 6, some .int) := rfl
theorem zm_230 : zmt.getD 230 zmt0 = (⟨"LateInksModel", "goes", "(IZ)I"⟩, prog_14_method_59_code, 5, some .int) := rfl
theorem zm_231 : zmt.getD 231 zmt0 = (⟨"LateInksModel", "netOf", "(II)I"⟩, prog_14_method_60_code, 6, some .int) := rfl
theorem zm_232 : zmt.getD 232 zmt0 = (⟨"LateInksModel", "readingOf", "(IZ)I"⟩, prog_14_method_61_code, 5, some .int) := rfl
theorem zm_233 : zmt.getD 233 zmt0 = (⟨"LateInksModel", "fortuneOf", "(I)I"⟩, prog_14_method_62_code, 5, some .int) := rfl
theorem zm_234 : zmt.getD 234 zmt0 = (⟨"LateInksModel", "shareOf", "(I)I"⟩, prog_14_method_63_code, 4, some .int) := rfl
theorem zm_235 : zmt.getD 235 zmt0 = (⟨"LateInksModel", "party", "(II)I"⟩, prog_14_method_64_code, 3, some .int) := rfl
theorem zm_236 : zmt.getD 236 zmt0 = (⟨"LateInksModel", "jarOf", "(I)I"⟩, prog_14_method_65_code, 4, some .int) := rfl
theorem zm_237 : zmt.getD 237 zmt0 = (⟨"LateInksModel", "ink", "(II)I"⟩, prog_14_method_66_code, 3, some .int) := rfl
theorem zm_238 : zmt.getD 238 zmt0 = (⟨"LateInksModel", "deed", "(II)I"⟩, prog_14_method_67_code, 3, some .int) := rfl
theorem zm_239 : zmt.getD 239 zmt0 = (⟨"LateInksModel", "remembers", "()V"⟩, prog_14_method_68_code, 2, none) := rfl
theorem zm_240 : zmt.getD 240 zmt0 = (⟨"LateInksModel", "sets", "(II)I"⟩, prog_14_method_69_code, 4, some .int) := rfl
theorem zm_241 : zmt.getD 241 zmt0 = (⟨"LateInksModel", "seasons", "(I)I"⟩, prog_14_method_70_code, 2, some .int) := rfl
theorem zm_242 : zmt.getD 242 zmt0 = (⟨"LateInksModel", "write", "(IIIII)I"⟩, prog_14_method_71_code, 6, some .int) := rfl
theorem zm_243 : zmt.getD 243 zmt0 = (⟨"LateInksModel", "warm", "(II)I"⟩, prog_14_method_72_code, 5, some .int) := rfl
theorem zm_244 : zmt.getD 244 zmt0 = (⟨"LateInksModel", "burn", "(I)I"⟩, prog_14_method_73_code, 3, some .int) := rfl
theorem zm_245 : zmt.getD 245 zmt0 = (⟨"LateInksModel", "lend", "(III)I"⟩, prog_14_method_74_code, 5, some .int) := rfl
theorem zm_246 : zmt.getD 246 zmt0 = (⟨"LateInksModel", "salt", "(I)I"⟩, prog_14_method_75_code, 2, some .int) := rfl
theorem zm_247 : zmt.getD 247 zmt0 = (⟨"LateInksModel", "bar", "(II)I"⟩, prog_14_method_76_code, 3, some .int) := rfl
theorem zm_248 : zmt.getD 248 zmt0 = (⟨"LateInksModel", "reads", "()I"⟩, prog_14_method_77_code, 1, some .int) := rfl
theorem zm_249 : zmt.getD 249 zmt0 = (⟨"LateInksModel", "blank", "()I"⟩, prog_14_method_78_code, 1, some .int) := rfl
theorem zm_250 : zmt.getD 250 zmt0 = (⟨"LateInksModel", "valid", "()I"⟩, prog_14_method_79_code, 3, some .int) := rfl
theorem zm_251 : zmt.getD 251 zmt0 = (⟨"LateInksModel", "firstBy", "(III)I"⟩, prog_14_method_80_code, 7, some .int) := rfl
theorem zm_252 : zmt.getD 252 zmt0 = (⟨"LateInksModel", "whenOf", "(I)I"⟩, prog_14_method_81_code, 2, some .int) := rfl
theorem zm_253 : zmt.getD 253 zmt0 = (⟨"LateInksModel", "when", "(I)I"⟩, prog_14_method_82_code, 2, some .int) := rfl
theorem zm_254 : zmt.getD 254 zmt0 = (⟨"LateInksModel", "due", "(I)I"⟩, prog_14_method_83_code, 2, some .int) := rfl
theorem zm_255 : zmt.getD 255 zmt0 = (⟨"LateInksModel", "brokenOnes", "()I"⟩, prog_14_method_84_code, 3, some .int) := rfl
theorem zm_256 : zmt.getD 256 zmt0 = (⟨"LateInksModel", "ruin", "(Z)I"⟩, prog_14_method_85_code, 6, some .int) := rfl
theorem zm_257 : zmt.getD 257 zmt0 = (⟨"LateInksModel", "wealth", "(II)I"⟩, prog_14_method_86_code, 5, some .int) := rfl
theorem zm_258 : zmt.getD 258 zmt0 = (⟨"LateInksModel", "chainOf", "(I)I"⟩, prog_14_method_87_code, 4, some .int) := rfl
theorem zm_259 : zmt.getD 259 zmt0 = (⟨"LateInksModel", "chain", "(I)I"⟩, prog_14_method_88_code, 2, some .int) := rfl
theorem zm_260 : zmt.getD 260 zmt0 = (⟨"LateInksModel", "hangs", "(I)I"⟩, prog_14_method_89_code, 4, some .int) := rfl
theorem zm_261 : zmt.getD 261 zmt0 = (⟨"LateInksModel", "late", "()I"⟩, prog_14_method_90_code, 5, some .int) := rfl
theorem zm_262 : zmt.getD 262 zmt0 = (⟨"LateInksModel", "net", "(II)I"⟩, prog_14_method_91_code, 3, some .int) := rfl
theorem zm_263 : zmt.getD 263 zmt0 = (⟨"LateInksModel", "costsOfAll", "(I)I"⟩, prog_14_method_92_code, 4, some .int) := rfl
theorem zm_264 : zmt.getD 264 zmt0 = (⟨"LateInksModel", "worth", "(IIZ)I"⟩, prog_14_method_93_code, 8, some .int) := rfl
theorem zm_265 : zmt.getD 265 zmt0 = (⟨"LateInksModel", "upOf", "(II)I"⟩, prog_14_method_94_code, 5, some .int) := rfl
theorem zm_266 : zmt.getD 266 zmt0 = (⟨"LateInksModel", "isRead", "(II)Z"⟩, prog_14_method_95_code, 4, some .boolean) := rfl
theorem zm_267 : zmt.getD 267 zmt0 = (⟨"LateInksModel", "heard", "()I"⟩, prog_14_method_96_code, 6, some .int) := rfl
theorem zm_268 : zmt.getD 268 zmt0 = (⟨"LateInksModel", "jars", "(Z)I"⟩, prog_14_method_97_code, 5, some .int) := rfl
theorem zm_269 : zmt.getD 269 zmt0 = (⟨"LateInksModel", "ask", "()I"⟩, prog_14_method_98_code, 7, some .int) := rfl
theorem zm_270 : zmt.getD 270 zmt0 = (⟨"LateInksModel", "forged", "(I)Z"⟩, prog_14_method_99_code, 2, some .boolean) := rfl
theorem zm_271 : zmt.getD 271 zmt0 = (⟨"LateInksModel", "areApart", "(III)Z"⟩, prog_14_method_100_code, 6, some .boolean) := rfl
theorem zm_272 : zmt.getD 272 zmt0 = (⟨"LateInksModel", "apart", "()I"⟩, prog_14_method_101_code, 6, some .int) := rfl
theorem zm_273 : zmt.getD 273 zmt0 = (⟨"LateInksModel", "soonest", "(Z)I"⟩, prog_14_method_102_code, 6, some .int) := rfl
theorem zm_274 : zmt.getD 274 zmt0 = (⟨"LateInksModel", "owesBy", "(III)I"⟩, prog_14_method_103_code, 6, some .int) := rfl
theorem zm_275 : zmt.getD 275 zmt0 = (⟨"LateInksModel", "owes", "(II)I"⟩, prog_14_method_104_code, 3, some .int) := rfl
theorem zm_276 : zmt.getD 276 zmt0 = (⟨"LateInksModel", "clearedBy", "(I)I"⟩, prog_14_method_105_code, 6, some .int) := rfl
theorem zm_277 : zmt.getD 277 zmt0 = (⟨"LateInksModel", "cleared", "()I"⟩, prog_14_method_106_code, 1, some .int) := rfl
theorem zm_278 : zmt.getD 278 zmt0 = (⟨"LateInksModel", "ring", "(I)Z"⟩, prog_14_method_107_code, 7, some .boolean) := rfl
theorem zm_279 : zmt.getD 279 zmt0 = (⟨"LateInksModel", "pivot", "()I"⟩, prog_14_method_108_code, 3, some .int) := rfl
theorem zm_280 : zmt.getD 280 zmt0 = (⟨"LateInksModel", "priceOf", "(I)I"⟩, prog_14_method_109_code, 3, some .int) := rfl
theorem zm_281 : zmt.getD 281 zmt0 = (⟨"LateInksModel", "mayBuy", "(III)Z"⟩, prog_14_method_110_code, 4, some .boolean) := rfl
theorem zm_282 : zmt.getD 282 zmt0 = (⟨"LateInksModel", "sales", "()V"⟩, prog_14_method_111_code, 5, none) := rfl
theorem zm_283 : zmt.getD 283 zmt0 = (⟨"LateInksModel", "buyers", "(I)I"⟩, prog_14_method_112_code, 6, some .int) := rfl
theorem zm_284 : zmt.getD 284 zmt0 = (⟨"LateInksModel", "hasBy", "(IIII)I"⟩, prog_14_method_113_code, 6, some .int) := rfl
theorem zm_285 : zmt.getD 285 zmt0 = (⟨"LateInksModel", "rests", "(III)I"⟩, prog_14_method_114_code, 8, some .int) := rfl
theorem zm_286 : zmt.getD 286 zmt0 = (⟨"LateInksModel", "odds", "(II)I"⟩, prog_14_method_115_code, 11, some .int) := rfl
theorem zm_287 : zmt.getD 287 zmt0 = (⟨"LateInksModel", "early", "(I)I"⟩, prog_14_method_116_code, 4, some .int) := rfl
theorem zm_288 : zmt.getD 288 zmt0 = (⟨"LateInksModel", "richest", "()I"⟩, prog_14_method_117_code, 3, some .int) := rfl
theorem zm_289 : zmt.getD 289 zmt0 = (⟨"LateInksModel", "areAlike", "(II)Z"⟩, prog_14_method_118_code, 5, some .boolean) := rfl
theorem zm_290 : zmt.getD 290 zmt0 = (⟨"LateInksModel", "alike", "()I"⟩, prog_14_method_119_code, 4, some .int) := rfl
theorem zm_291 : zmt.getD 291 zmt0 = (⟨"LateInksModel", "broken", "()I"⟩, prog_14_method_120_code, 1, some .int) := rfl
theorem zm_292 : zmt.getD 292 zmt0 = (⟨"LateInksModel", "ahead", "(III)I"⟩, prog_14_method_121_code, 6, some .int) := rfl
theorem zm_293 : zmt.getD 293 zmt0 = (⟨"LateInksModel", "paidOnes", "()I"⟩, prog_14_method_122_code, 3, some .int) := rfl
theorem zm_294 : zmt.getD 294 zmt0 = (⟨"LateInksModel", "trial", "(IZ)I"⟩, prog_14_method_123_code, 5, some .int) := rfl
theorem zm_295 : zmt.getD 295 zmt0 = (⟨"LateInksModel", "span", "(IZ)I"⟩, prog_14_method_124_code, 7, some .int) := rfl
theorem zm_296 : zmt.getD 296 zmt0 = (⟨"LateInksModel", "logged", "(II)I"⟩, prog_14_method_125_code, 3, some .int) := rfl
theorem zm_297 : zmt.getD 297 zmt0 = (⟨"LateInksModel", "led", "(IZ)I"⟩, prog_14_method_126_code, 6, some .int) := rfl
theorem zm_298 : zmt.getD 298 zmt0 = (⟨"LateInksModel", "log", "(II)I"⟩, prog_14_method_127_code, 3, some .int) := rfl
theorem zm_299 : zmt.getD 299 zmt0 = (⟨"LateInksModel", "damp", "(I)I"⟩, prog_14_method_128_code, 2, some .int) := rfl
theorem zm_300 : zmt.getD 300 zmt0 = (⟨"LateInksModel", "seed", "(I)I"⟩, prog_14_method_129_code, 3, some .int) := rfl
theorem zm_301 : zmt.getD 301 zmt0 = (⟨"LateInksModel", "undo", "()Z"⟩, prog_14_method_130_code, 2, some .boolean) := rfl
theorem zm_302 : zmt.getD 302 zmt0 = (⟨"LateInksModel", "image", "()V"⟩, prog_14_method_131_code, 2, none) := rfl
theorem zm_303 : zmt.getD 303 zmt0 = (⟨"LateInksModel", "back", "()Z"⟩, prog_14_method_132_code, 2, some .boolean) := rfl
theorem zm_304 : zmt.getD 304 zmt0 = (⟨"LateInksModel", "count", "(I)I"⟩, prog_14_method_133_code, 4, some .int) := rfl
theorem zm_305 : zmt.getD 305 zmt0 = (⟨"java/lang/Integer", "bitCount", "(I)I"⟩, prog_22_method_49_code, 1, some .int) := rfl
theorem zm_306 : zmt.getD 306 zmt0 = (⟨"java/lang/Math", "max", "(II)I"⟩, prog_23_method_65_code, 2, some .int) := rfl
theorem zm_307 : zmt.getD 307 zmt0 = (⟨"java/lang/Math", "max", "(JJ)J"⟩, prog_23_method_66_code, 4, some .long) := rfl
theorem zm_308 : zmt.getD 308 zmt0 = (⟨"java/lang/Math", "min", "(II)I"⟩, prog_23_method_69_code, 2, some .int) := rfl
theorem zm_309 : zmt.getD 309 zmt0 = (⟨"java/lang/String", "length", "()I"⟩, prog_25_method_54_code, 1, some .int) := rfl
theorem zm_310 : zmt.getD 310 zmt0 = (⟨"java/lang/String", "charAt", "(I)C"⟩, prog_25_method_56_code, 2, some .char) := rfl
theorem zm_311 : zmt.getD 311 zmt0 = (⟨"java/lang/String", "coder", "()B"⟩, prog_25_method_152_code, 1, some .byte) := rfl
theorem zm_312 : zmt.getD 312 zmt0 = (⟨"java/lang/String", "isLatin1", "()Z"⟩, prog_25_method_154_code, 1, some .boolean) := rfl
theorem zm_313 : zmt.getD 313 zmt0 = (⟨"java/lang/String", "checkIndex", "(II)V"⟩, prog_25_method_155_code, 2, none) := rfl
theorem zm_314 : zmt.getD 314 zmt0 = (⟨"java/lang/StringLatin1", "charAt", "([BI)C"⟩, prog_26_method_2_code, 2, some .char) := rfl
theorem zm_315 : zmt.getD 315 zmt0 = (⟨"java/util/Arrays", "fill", "([II)V"⟩, prog_33_method_103_code, 4, none) := rfl
theorem zm_316 : zmt.getD 316 zmt0 = (⟨"jdk/internal/util/Preconditions", "checkIndex", "(IILjava/util/function/BiFunction;)I"⟩, prog_35_method_11_code, 3, some .int) := rfl
theorem zm_317 : zmt.getD 317 zmt0 = (⟨"LateInksLaw", "port", "(LLateInks;[J)I"⟩, method_3_code, 3, some .int) := rfl
theorem zm_318 : zmt.getD 318 zmt0 = (⟨"LateInksLaw", "law", "(LLateInks;[J)I"⟩, method_4_code, 3, some .int) := rfl
theorem zm_319 : zmt.getD 319 zmt0 = (⟨"LateInksLaw", "party", "(LLateInks;II[J)I"⟩, method_5_code, 5, some .int) := rfl
theorem zm_320 : zmt.getD 320 zmt0 = (⟨"LateInksLaw", "ink", "(LLateInks;II[J)I"⟩, method_6_code, 5, some .int) := rfl
theorem zm_321 : zmt.getD 321 zmt0 = (⟨"LateInksLaw", "deed", "(LLateInks;II[J)I"⟩, method_7_code, 5, some .int) := rfl
theorem zm_322 : zmt.getD 322 zmt0 = (⟨"LateInksLaw", "seasons", "(LLateInks;I[J)I"⟩, method_8_code, 4, some .int) := rfl
theorem zm_323 : zmt.getD 323 zmt0 = (⟨"LateInksLaw", "write", "(LLateInks;IIIII[J)I"⟩, method_9_code, 8, some .int) := rfl
theorem zm_324 : zmt.getD 324 zmt0 = (⟨"LateInksLaw", "warm", "(LLateInks;II[J)I"⟩, method_10_code, 5, some .int) := rfl
theorem zm_325 : zmt.getD 325 zmt0 = (⟨"LateInksLaw", "burn", "(LLateInks;I[J)I"⟩, method_11_code, 4, some .int) := rfl
theorem zm_326 : zmt.getD 326 zmt0 = (⟨"LateInksLaw", "lend", "(LLateInks;III[J)I"⟩, method_12_code, 6, some .int) := rfl
theorem zm_327 : zmt.getD 327 zmt0 = (⟨"LateInksLaw", "salt", "(LLateInks;I[J)I"⟩, method_13_code, 4, some .int) := rfl
theorem zm_328 : zmt.getD 328 zmt0 = (⟨"LateInksLaw", "bar", "(LLateInks;II[J)I"⟩, method_14_code, 5, some .int) := rfl
theorem zm_329 : zmt.getD 329 zmt0 = (⟨"LateInksLaw", "when", "(LLateInks;I[J)I"⟩, method_15_code, 4, some .int) := rfl
theorem zm_330 : zmt.getD 330 zmt0 = (⟨"LateInksLaw", "due", "(LLateInks;I[J)I"⟩, method_16_code, 4, some .int) := rfl
theorem zm_331 : zmt.getD 331 zmt0 = (⟨"LateInksLaw", "wealth", "(LLateInks;II[J)I"⟩, method_17_code, 5, some .int) := rfl
theorem zm_332 : zmt.getD 332 zmt0 = (⟨"LateInksLaw", "chain", "(LLateInks;I[J)I"⟩, method_18_code, 4, some .int) := rfl
theorem zm_333 : zmt.getD 333 zmt0 = (⟨"LateInksLaw", "hangs", "(LLateInks;I[J)I"⟩, method_19_code, 4, some .int) := rfl
theorem zm_334 : zmt.getD 334 zmt0 = (⟨"LateInksLaw", "net", "(LLateInks;II[J)I"⟩, method_20_code, 5, some .int) := rfl
theorem zm_335 : zmt.getD 335 zmt0 = (⟨"LateInksLaw", "worth", "(LLateInks;IIZ[J)I"⟩, method_21_code, 6, some .int) := rfl
theorem zm_336 : zmt.getD 336 zmt0 = (⟨"LateInksLaw", "jars", "(LLateInks;Z[J)I"⟩, method_22_code, 4, some .int) := rfl
theorem zm_337 : zmt.getD 337 zmt0 = (⟨"LateInksLaw", "ask", "(LLateInks;[J)I"⟩, method_23_code, 3, some .int) := rfl
theorem zm_338 : zmt.getD 338 zmt0 = (⟨"LateInksLaw", "forged", "(LLateInks;I[J)I"⟩, method_24_code, 4, some .int) := rfl
theorem zm_339 : zmt.getD 339 zmt0 = (⟨"LateInksLaw", "owes", "(LLateInks;II[J)I"⟩, method_25_code, 5, some .int) := rfl
theorem zm_340 : zmt.getD 340 zmt0 = (⟨"LateInksLaw", "ring", "(LLateInks;I[J)I"⟩, method_26_code, 4, some .int) := rfl
theorem zm_341 : zmt.getD 341 zmt0 = (⟨"LateInksLaw", "buyers", "(LLateInks;I[J)I"⟩, method_27_code, 4, some .int) := rfl
theorem zm_342 : zmt.getD 342 zmt0 = (⟨"LateInksLaw", "rests", "(LLateInks;III[J)I"⟩, method_28_code, 6, some .int) := rfl
theorem zm_343 : zmt.getD 343 zmt0 = (⟨"LateInksLaw", "odds", "(LLateInks;II[J)I"⟩, method_29_code, 5, some .int) := rfl
theorem zm_344 : zmt.getD 344 zmt0 = (⟨"LateInksLaw", "early", "(LLateInks;I[J)I"⟩, method_30_code, 4, some .int) := rfl
theorem zm_345 : zmt.getD 345 zmt0 = (⟨"LateInksLaw", "ahead", "(LLateInks;III[J)I"⟩, method_31_code, 6, some .int) := rfl
theorem zm_346 : zmt.getD 346 zmt0 = (⟨"LateInksLaw", "trial", "(LLateInks;IZ[J)I"⟩, method_32_code, 5, some .int) := rfl
theorem zm_347 : zmt.getD 347 zmt0 = (⟨"LateInksLaw", "span", "(LLateInks;IZ[J)I"⟩, method_33_code, 5, some .int) := rfl
theorem zm_348 : zmt.getD 348 zmt0 = (⟨"LateInksLaw", "led", "(LLateInks;IZ[J)I"⟩, method_34_code, 5, some .int) := rfl
theorem zm_349 : zmt.getD 349 zmt0 = (⟨"LateInksLaw", "log", "(LLateInks;II[J)I"⟩, method_35_code, 5, some .int) := rfl
theorem zm_350 : zmt.getD 350 zmt0 = (⟨"LateInksLaw", "damp", "(LLateInks;I[J)I"⟩, method_36_code, 4, some .int) := rfl
