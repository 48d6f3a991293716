/-! THE METHODS AS FUNCTIONS, printed by wip/tools/decomp.py; the machine does what they say. -/
set_option maxRecDepth 20000 in
theorem m_0 : tb_m 0 = some (0, ⟨"EventHallLaw", "law", "([I)Z"⟩, 1, code, 4, (some .boolean)) := rfl
set_option maxRecDepth 20000 in
theorem m_18 : tb_m 18 = some (1, ⟨"EventHall", "feed", "(IIIII)I"⟩, 5, prog_1_method_2_code, 6, (some .int)) := rfl
set_option maxRecDepth 20000 in
theorem m_19 : tb_m 19 = some (1, ⟨"EventHall", "append", "(I)V"⟩, 1, prog_1_method_3_code, 3, none) := rfl
set_option maxRecDepth 20000 in
theorem m_20 : tb_m 20 = some (1, ⟨"EventHall", "end", "(I)I"⟩, 1, prog_1_method_4_code, 2, (some .int)) := rfl
set_option maxRecDepth 20000 in
theorem m_21 : tb_m 21 = some (1, ⟨"EventHall", "load", "()I"⟩, 0, prog_1_method_5_code, 1, (some .int)) := rfl
set_option maxRecDepth 20000 in
theorem m_22 : tb_m 22 = some (2, ⟨"EventHall$Tokens", "part", "([BI)V"⟩, 2, prog_10_method_2_code, 6, none) := rfl
set_option maxRecDepth 20000 in
theorem m_23 : tb_m 23 = some (2, ⟨"EventHall$Tokens", "skipBlanks", "([BI)V"⟩, 2, prog_10_method_4_code, 5, none) := rfl
set_option maxRecDepth 20000 in
theorem m_24 : tb_m 24 = some (2, ⟨"EventHall$Tokens", "byteAt", "([BII)I"⟩, 3, prog_10_method_3_code, 3, (some .int)) := rfl
set_option maxRecDepth 20000 in
theorem m_25 : tb_m 25 = some (2, ⟨"EventHall$Tokens", "takeToken", "([BI)Z"⟩, 2, prog_10_method_5_code, 4, (some .boolean)) := rfl
set_option maxRecDepth 20000 in
theorem m_26 : tb_m 26 = some (2, ⟨"EventHall$Tokens", "add", "(IIJ)Z"⟩, 3, prog_10_method_9_code, 5, (some .boolean)) := rfl
set_option maxRecDepth 20000 in
theorem m_27 : tb_m 27 = some (2, ⟨"EventHall$Tokens", "isLetter", "(I)Z"⟩, 1, prog_10_method_12_code, 1, (some .boolean)) := rfl
set_option maxRecDepth 20000 in
theorem m_28 : tb_m 28 = some (2, ⟨"EventHall$Tokens", "takeWord", "([BI)Z"⟩, 2, prog_10_method_6_code, 8, (some .boolean)) := rfl
set_option maxRecDepth 20000 in
theorem m_29 : tb_m 29 = some (2, ⟨"EventHall$Tokens", "isDigit", "(I)Z"⟩, 1, prog_10_method_13_code, 1, (some .boolean)) := rfl
set_option maxRecDepth 20000 in
theorem m_30 : tb_m 30 = some (2, ⟨"EventHall$Tokens", "takeNumber", "([BI)Z"⟩, 2, prog_10_method_7_code, 8, (some .boolean)) := rfl
set_option maxRecDepth 20000 in
theorem m_31 : tb_m 31 = some (2, ⟨"EventHall$Tokens", "takeSign", "(II)Z"⟩, 2, prog_10_method_8_code, 4, (some .boolean)) := rfl
set_option maxRecDepth 20000 in
theorem m_32 : tb_m 32 = some (2, ⟨"EventHall$Tokens", "isPair", "(II)Z"⟩, 2, prog_10_method_10_code, 2, (some .boolean)) := rfl
set_option maxRecDepth 20000 in
theorem m_33 : tb_m 33 = some (2, ⟨"EventHall$Tokens", "isSign", "(I)Z"⟩, 1, prog_10_method_11_code, 1, (some .boolean)) := rfl
set_option maxRecDepth 20000 in
theorem m_34 : tb_m 34 = some (5, ⟨"EventHall$TextReader", "readText", "()Z"⟩, 0, prog_9_method_2_code, 3, (some .boolean)) := rfl
set_option maxRecDepth 20000 in
theorem m_35 : tb_m 35 = some (3, ⟨"EventHall$Program", "clear", "()V"⟩, 0, prog_8_method_2_code, 2, none) := rfl
set_option maxRecDepth 20000 in
theorem m_36 : tb_m 36 = some (5, ⟨"EventHall$TextReader", "readResource", "()Z"⟩, 0, prog_9_method_3_code, 2, (some .boolean)) := rfl
set_option maxRecDepth 20000 in
theorem m_37 : tb_m 37 = some (2, ⟨"EventHall$Tokens", "advance", "()V"⟩, 0, prog_10_method_14_code, 1, none) := rfl
set_option maxRecDepth 20000 in
theorem m_38 : tb_m 38 = some (5, ⟨"EventHall$TextReader", "tell", "(II)Z"⟩, 2, prog_9_method_9_code, 5, (some .boolean)) := rfl
set_option maxRecDepth 20000 in
theorem m_39 : tb_m 39 = some (2, ⟨"EventHall$Tokens", "word", "()J"⟩, 0, prog_10_method_18_code, 1, (some .long)) := rfl
set_option maxRecDepth 20000 in
theorem m_40 : tb_m 40 = some (5, ⟨"EventHall$TextReader", "checkNewWord", "(II)Z"⟩, 2, prog_9_method_10_code, 3, (some .boolean)) := rfl
set_option maxRecDepth 20000 in
theorem m_41 : tb_m 41 = some (2, ⟨"EventHall$Tokens", "isAnyWord", "()Z"⟩, 0, prog_10_method_16_code, 1, (some .boolean)) := rfl
set_option maxRecDepth 20000 in
theorem m_42 : tb_m 42 = some (2, ⟨"EventHall$Tokens", "fail", "(I)Z"⟩, 1, prog_10_method_21_code, 2, (some .boolean)) := rfl
set_option maxRecDepth 20000 in
theorem m_43 : tb_m 43 = some (2, ⟨"EventHall$Tokens", "isReserved", "()Z"⟩, 0, prog_10_method_17_code, 1, (some .boolean)) := rfl
set_option maxRecDepth 20000 in
theorem m_44 : tb_m 44 = some (3, ⟨"EventHall$Program", "isTaken", "(JI)Z"⟩, 2, prog_8_method_6_code, 6, (some .boolean)) := rfl
set_option maxRecDepth 20000 in
theorem m_45 : tb_m 45 = some (3, ⟨"EventHall$Program", "addWord", "(JI)V"⟩, 2, prog_8_method_3_code, 4, none) := rfl
set_option maxRecDepth 20000 in
theorem m_46 : tb_m 46 = some (5, ⟨"EventHall$TextReader", "checkNumber", "(II)Z"⟩, 2, prog_9_method_6_code, 3, (some .boolean)) := rfl
set_option maxRecDepth 20000 in
theorem m_47 : tb_m 47 = some (2, ⟨"EventHall$Tokens", "value", "()I"⟩, 0, prog_10_method_19_code, 1, (some .int)) := rfl
set_option maxRecDepth 20000 in
theorem m_48 : tb_m 48 = some (5, ⟨"EventHall$TextReader", "setPlace", "(III)V"⟩, 3, prog_9_method_5_code, 4, none) := rfl
set_option maxRecDepth 20000 in
theorem m_49 : tb_m 49 = some (2, ⟨"EventHall$Tokens", "need", "(I)Z"⟩, 1, prog_10_method_20_code, 2, (some .boolean)) := rfl
set_option maxRecDepth 20000 in
theorem m_50 : tb_m 50 = some (5, ⟨"EventHall$TextReader", "readStore", "()Z"⟩, 0, prog_9_method_4_code, 3, (some .boolean)) := rfl
set_option maxRecDepth 20000 in
theorem m_51 : tb_m 51 = some (5, ⟨"EventHall$TextReader", "readNumbers", "()Z"⟩, 0, prog_9_method_7_code, 1, (some .boolean)) := rfl
set_option maxRecDepth 20000 in
theorem m_52 : tb_m 52 = some (5, ⟨"EventHall$TextReader", "readWords", "(II)Z"⟩, 2, prog_9_method_8_code, 4, (some .boolean)) := rfl
set_option maxRecDepth 20000 in
theorem m_53 : tb_m 53 = some (5, ⟨"EventHall$TextReader", "readProcess", "()Z"⟩, 0, prog_9_method_11_code, 2, (some .boolean)) := rfl
set_option maxRecDepth 20000 in
theorem m_54 : tb_m 54 = some (3, ⟨"EventHall$Program", "isDefinition", "(I)Z"⟩, 1, prog_8_method_11_code, 2, (some .boolean)) := rfl
set_option maxRecDepth 20000 in
theorem m_55 : tb_m 55 = some (5, ⟨"EventHall$TextReader", "readBlock", "(I)Z"⟩, 1, prog_9_method_13_code, 3, (some .boolean)) := rfl
set_option maxRecDepth 20000 in
theorem m_56 : tb_m 56 = some (5, ⟨"EventHall$TextReader", "readStatement", "(I)Z"⟩, 1, prog_9_method_14_code, 6, (some .boolean)) := rfl
set_option maxRecDepth 20000 in
theorem m_57 : tb_m 57 = some (5, ⟨"EventHall$TextReader", "faultOfStatement", "()I"⟩, 0, prog_9_method_15_code, 2, (some .int)) := rfl
set_option maxRecDepth 20000 in
theorem m_58 : tb_m 58 = some (3, ⟨"EventHall$Program", "findValue", "(J)I"⟩, 1, prog_8_method_7_code, 4, (some .int)) := rfl
set_option maxRecDepth 20000 in
theorem m_59 : tb_m 59 = some (5, ⟨"EventHall$TextReader", "readPlain", "(II)Z"⟩, 2, prog_9_method_17_code, 5, (some .boolean)) := rfl
set_option maxRecDepth 20000 in
theorem m_60 : tb_m 60 = some (4, ⟨"EventHall$FormulaReader", "readExp", "(I)Z"⟩, 1, prog_3_method_2_code, 5, (some .boolean)) := rfl
set_option maxRecDepth 20000 in
theorem m_61 : tb_m 61 = some (4, ⟨"EventHall$FormulaReader", "readTest", "(I)Z"⟩, 1, prog_3_method_3_code, 3, (some .boolean)) := rfl
set_option maxRecDepth 20000 in
theorem m_62 : tb_m 62 = some (4, ⟨"EventHall$FormulaReader", "readSum", "(I)Z"⟩, 1, prog_3_method_5_code, 6, (some .boolean)) := rfl
set_option maxRecDepth 20000 in
theorem m_63 : tb_m 63 = some (4, ⟨"EventHall$FormulaReader", "readOne", "(I)Z"⟩, 1, prog_3_method_7_code, 6, (some .boolean)) := rfl
set_option maxRecDepth 20000 in
theorem m_64 : tb_m 64 = some (4, ⟨"EventHall$FormulaReader", "faultOfOne", "()I"⟩, 0, prog_3_method_8_code, 1, (some .int)) := rfl
set_option maxRecDepth 20000 in
theorem m_65 : tb_m 65 = some (3, ⟨"EventHall$Program", "addOp", "(II)I"⟩, 2, prog_8_method_16_code, 3, (some .int)) := rfl
set_option maxRecDepth 20000 in
theorem m_66 : tb_m 66 = some (4, ⟨"EventHall$FormulaReader", "readLook", "(I)Z"⟩, 1, prog_3_method_11_code, 3, (some .boolean)) := rfl
set_option maxRecDepth 20000 in
theorem m_67 : tb_m 67 = some (3, ⟨"EventHall$Program", "findPlace", "(JZZ)I"⟩, 3, prog_8_method_8_code, 6, (some .int)) := rfl
set_option maxRecDepth 20000 in
theorem m_68 : tb_m 68 = some (4, ⟨"EventHall$FormulaReader", "readInner", "(I)Z"⟩, 1, prog_3_method_9_code, 2, (some .boolean)) := rfl
set_option maxRecDepth 20000 in
theorem m_69 : tb_m 69 = some (4, ⟨"EventHall$FormulaReader", "addRead", "(I)Z"⟩, 1, prog_3_method_10_code, 2, (some .boolean)) := rfl
set_option maxRecDepth 20000 in
theorem m_70 : tb_m 70 = some (4, ⟨"EventHall$FormulaReader", "addSign", "(I)V"⟩, 1, prog_3_method_6_code, 2, none) := rfl
set_option maxRecDepth 20000 in
theorem m_71 : tb_m 71 = some (4, ⟨"EventHall$FormulaReader", "isRelation", "(I)Z"⟩, 1, prog_3_method_4_code, 1, (some .boolean)) := rfl
set_option maxRecDepth 20000 in
theorem m_72 : tb_m 72 = some (3, ⟨"EventHall$Program", "closeSkip", "(I)V"⟩, 1, prog_8_method_17_code, 2, none) := rfl
set_option maxRecDepth 20000 in
theorem m_73 : tb_m 73 = some (5, ⟨"EventHall$TextReader", "closeStatement", "(III)Z"⟩, 3, prog_9_method_16_code, 4, (some .boolean)) := rfl
set_option maxRecDepth 20000 in
theorem m_74 : tb_m 74 = some (3, ⟨"EventHall$Program", "addAct", "(III)I"⟩, 3, prog_8_method_12_code, 4, (some .int)) := rfl
set_option maxRecDepth 20000 in
theorem m_75 : tb_m 75 = some (5, ⟨"EventHall$TextReader", "readIf", "(I)Z"⟩, 1, prog_9_method_19_code, 5, (some .boolean)) := rfl
set_option maxRecDepth 20000 in
theorem m_76 : tb_m 76 = some (3, ⟨"EventHall$Program", "aim", "(II)V"⟩, 2, prog_8_method_13_code, 3, none) := rfl
set_option maxRecDepth 20000 in
theorem m_77 : tb_m 77 = some (5, ⟨"EventHall$TextReader", "readWhile", "(I)Z"⟩, 1, prog_9_method_20_code, 4, (some .boolean)) := rfl
set_option maxRecDepth 20000 in
theorem m_78 : tb_m 78 = some (5, ⟨"EventHall$TextReader", "readLet", "()Z"⟩, 0, prog_9_method_18_code, 5, (some .boolean)) := rfl
set_option maxRecDepth 20000 in
theorem m_79 : tb_m 79 = some (5, ⟨"EventHall$TextReader", "readStart", "()Z"⟩, 0, prog_9_method_22_code, 7, (some .boolean)) := rfl
set_option maxRecDepth 20000 in
theorem m_80 : tb_m 80 = some (2, ⟨"EventHall$Tokens", "currentPlace", "()I"⟩, 0, prog_10_method_15_code, 1, (some .int)) := rfl
set_option maxRecDepth 20000 in
theorem m_81 : tb_m 81 = some (3, ⟨"EventHall$Program", "find", "(JI)I"⟩, 2, prog_8_method_5_code, 5, (some .int)) := rfl
set_option maxRecDepth 20000 in
theorem m_82 : tb_m 82 = some (5, ⟨"EventHall$TextReader", "keepOpen", "(JII)V"⟩, 3, prog_9_method_23_code, 5, none) := rfl
set_option maxRecDepth 20000 in
theorem m_83 : tb_m 83 = some (5, ⟨"EventHall$TextReader", "readUse", "(IZ)Z"⟩, 2, prog_9_method_21_code, 5, (some .boolean)) := rfl
set_option maxRecDepth 20000 in
theorem m_84 : tb_m 84 = some (3, ⟨"EventHall$Program", "dropVariables", "()V"⟩, 0, prog_8_method_4_code, 1, none) := rfl
set_option maxRecDepth 20000 in
theorem m_85 : tb_m 85 = some (5, ⟨"EventHall$TextReader", "closeStarts", "()Z"⟩, 0, prog_9_method_12_code, 4, (some .boolean)) := rfl
set_option maxRecDepth 20000 in
theorem m_86 : tb_m 86 = some (2, ⟨"EventHall$Tokens", "failAt", "(II)Z"⟩, 2, prog_10_method_22_code, 3, (some .boolean)) := rfl
set_option maxRecDepth 20000 in
theorem m_87 : tb_m 87 = some (11, ⟨"EventHall$Hall", "open", "()V"⟩, 0, prog_4_method_2_code, 1, none) := rfl
set_option maxRecDepth 20000 in
theorem m_88 : tb_m 88 = some (9, ⟨"EventHall$World", "open", "(LEventHall$Program;)V"⟩, 1, prog_11_method_2_code, 4, none) := rfl
set_option maxRecDepth 20000 in
theorem m_89 : tb_m 89 = some (8, ⟨"EventHall$Place", "open", "(II)V"⟩, 2, prog_6_method_2_code, 3, none) := rfl
set_option maxRecDepth 20000 in
theorem m_90 : tb_m 90 = some (7, ⟨"EventHall$Line", "clear", "()V"⟩, 0, prog_5_method_2_code, 1, none) := rfl
set_option maxRecDepth 20000 in
theorem m_91 : tb_m 91 = some (10, ⟨"EventHall$Floor", "clear", "()V"⟩, 0, prog_2_method_2_code, 1, none) := rfl
set_option maxRecDepth 20000 in
theorem m_92 : tb_m 92 = some (1, ⟨"EventHall", "seed", "(I)I"⟩, 1, prog_1_method_6_code, 2, (some .int)) := rfl
set_option maxRecDepth 20000 in
theorem m_93 : tb_m 93 = some (9, ⟨"EventHall$World", "changeSeed", "(I)I"⟩, 1, prog_11_method_3_code, 3, (some .int)) := rfl
set_option maxRecDepth 20000 in
theorem m_94 : tb_m 94 = some (1, ⟨"EventHall", "start", "(IIIII)I"⟩, 5, prog_1_method_7_code, 6, (some .int)) := rfl
set_option maxRecDepth 20000 in
theorem m_95 : tb_m 95 = some (11, ⟨"EventHall$Hall", "admits", "(I)Z"⟩, 1, prog_4_method_3_code, 2, (some .boolean)) := rfl
set_option maxRecDepth 20000 in
theorem m_96 : tb_m 96 = some (10, ⟨"EventHall$Floor", "isFull", "()Z"⟩, 0, prog_2_method_3_code, 1, (some .boolean)) := rfl
set_option maxRecDepth 20000 in
theorem m_97 : tb_m 97 = some (11, tb_n97, 5, prog_4_method_4_code, 8, (some .int)) := rfl
set_option maxRecDepth 20000 in
theorem m_98 : tb_m 98 = some (11, ⟨"EventHall$Hall", "add", "(I)LEventHall$Proc;"⟩, 1, prog_4_method_5_code, 2, (some (.object "EventHall$Proc"))) := rfl
set_option maxRecDepth 20000 in
theorem m_99 : tb_m 99 = some (10, ⟨"EventHall$Floor", "add", "(II)LEventHall$Proc;"⟩, 2, prog_2_method_5_code, 4, (some (.object "EventHall$Proc"))) := rfl
set_option maxRecDepth 20000 in
theorem m_101 : tb_m 101 = some (6, ⟨"EventHall$Proc", "begin", "(II)V"⟩, 2, prog_7_method_2_code, 4, none) := rfl
set_option maxRecDepth 20000 in
theorem m_102 : tb_m 102 = some (10, ⟨"EventHall$Floor", "putInCalendar", "(LEventHall$Proc;II)V"⟩, 3, prog_2_method_6_code, 5, none) := rfl
set_option maxRecDepth 20000 in
theorem m_103 : tb_m 103 = some (7, ⟨"EventHall$Line", "drop", "(LEventHall$Proc;)V"⟩, 1, prog_5_method_5_code, 4, none) := rfl
set_option maxRecDepth 20000 in
theorem m_104 : tb_m 104 = some (7, ⟨"EventHall$Line", "join", "(LEventHall$Proc;I)V"⟩, 2, prog_5_method_3_code, 5, none) := rfl
set_option maxRecDepth 20000 in
theorem m_105 : tb_m 105 = some (1, ⟨"EventHall", "run", "(I)I"⟩, 1, prog_1_method_8_code, 2, (some .int)) := rfl
set_option maxRecDepth 20000 in
theorem m_106 : tb_m 106 = some (1, ⟨"EventHall", "isStepCount", "(I)Z"⟩, 1, prog_1_method_10_code, 1, (some .boolean)) := rfl
set_option maxRecDepth 20000 in
theorem m_107 : tb_m 107 = some (11, ⟨"EventHall$Hall", "doSteps", "(I)I"⟩, 1, prog_4_method_6_code, 4, (some .int)) := rfl
set_option maxRecDepth 20000 in
theorem m_108 : tb_m 108 = some (11, ⟨"EventHall$Hall", "doStep", "(LEventHall$Proc;)V"⟩, 1, prog_4_method_9_code, 4, none) := rfl
set_option maxRecDepth 20000 in
theorem m_109 : tb_m 109 = some (9, ⟨"EventHall$World", "reckon", "(LEventHall$Program;ILEventHall$Proc;)I"⟩, 3, prog_11_method_10_code, 8, (some .int)) := rfl
set_option maxRecDepth 20000 in
theorem m_110 : tb_m 110 = some (9, ⟨"EventHall$World", "skips", "(I)Z"⟩, 1, prog_11_method_14_code, 4, (some .boolean)) := rfl
set_option maxRecDepth 20000 in
theorem m_111 : tb_m 111 = some (9, ⟨"EventHall$World", "pop", "()I"⟩, 0, prog_11_method_13_code, 1, (some .int)) := rfl
set_option maxRecDepth 20000 in
theorem m_112 : tb_m 112 = some (9, ⟨"EventHall$World", "truth", "(Z)I"⟩, 1, prog_11_method_15_code, 1, (some .int)) := rfl
set_option maxRecDepth 20000 in
theorem m_113 : tb_m 113 = some (9, ⟨"EventHall$World", "push", "(I)V"⟩, 1, prog_11_method_12_code, 2, none) := rfl
set_option maxRecDepth 20000 in
theorem m_114 : tb_m 114 = some (9, ⟨"EventHall$World", "apply", "(IILEventHall$Proc;)I"⟩, 3, prog_11_method_16_code, 4, (some .int)) := rfl
set_option maxRecDepth 20000 in
theorem m_115 : tb_m 115 = some (9, ⟨"EventHall$World", "valueOf", "(LEventHall$Proc;I)I"⟩, 2, prog_11_method_9_code, 3, (some .int)) := rfl
set_option maxRecDepth 20000 in
theorem m_116 : tb_m 116 = some (9, ⟨"EventHall$World", "numberAt", "(I)I"⟩, 1, prog_11_method_4_code, 2, (some .int)) := rfl
set_option maxRecDepth 20000 in
theorem m_117 : tb_m 117 = some (9, ⟨"EventHall$World", "look", "(II)I"⟩, 2, prog_11_method_17_code, 4, (some .int)) := rfl
set_option maxRecDepth 20000 in
theorem m_118 : tb_m 118 = some (9, ⟨"EventHall$World", "placeAt", "(I)LEventHall$Place;"⟩, 1, prog_11_method_5_code, 2, (some (.object "EventHall$Place"))) := rfl
set_option maxRecDepth 20000 in
theorem m_119 : tb_m 119 = some (8, ⟨"EventHall$Place", "waiting", "()I"⟩, 0, prog_6_method_3_code, 1, (some .int)) := rfl
set_option maxRecDepth 20000 in
theorem m_120 : tb_m 120 = some (9, ⟨"EventHall$World", "draw", "(I)I"⟩, 1, prog_11_method_18_code, 2, (some .int)) := rfl
set_option maxRecDepth 20000 in
theorem m_121 : tb_m 121 = some (9, ⟨"EventHall$World", "applyToTwo", "(I)I"⟩, 1, prog_11_method_19_code, 4, (some .int)) := rfl
set_option maxRecDepth 20000 in
theorem m_122 : tb_m 122 = some (9, ⟨"EventHall$World", "combine", "(III)I"⟩, 3, prog_11_method_20_code, 3, (some .int)) := rfl
set_option maxRecDepth 20000 in
theorem m_123 : tb_m 123 = some (9, ⟨"EventHall$World", "holds", "(III)Z"⟩, 3, prog_11_method_21_code, 3, (some .boolean)) := rfl
set_option maxRecDepth 20000 in
theorem m_124 : tb_m 124 = some (9, ⟨"EventHall$World", "result", "(I)I"⟩, 1, prog_11_method_11_code, 2, (some .int)) := rfl
set_option maxRecDepth 20000 in
theorem m_125 : tb_m 125 = some (11, ⟨"EventHall$Hall", "perform", "(LEventHall$Proc;II)I"⟩, 3, prog_4_method_12_code, 5, (some .int)) := rfl
set_option maxRecDepth 20000 in
theorem m_126 : tb_m 126 = some (3, ⟨"EventHall$Program", "targetAt", "(I)I"⟩, 1, prog_8_method_15_code, 2, (some .int)) := rfl
set_option maxRecDepth 20000 in
theorem m_127 : tb_m 127 = some (3, ⟨"EventHall$Program", "actAt", "(I)I"⟩, 1, prog_8_method_14_code, 2, (some .int)) := rfl
set_option maxRecDepth 20000 in
theorem m_128 : tb_m 128 = some (9, ⟨"EventHall$World", "assign", "(LEventHall$Proc;II)V"⟩, 3, prog_11_method_8_code, 4, none) := rfl
set_option maxRecDepth 20000 in
theorem m_129 : tb_m 129 = some (11, ⟨"EventHall$Hall", "hold", "(LEventHall$Proc;I)I"⟩, 2, prog_4_method_14_code, 3, (some .int)) := rfl
set_option maxRecDepth 20000 in
theorem m_130 : tb_m 130 = some (11, ⟨"EventHall$Hall", "isTimeAhead", "(I)Z"⟩, 1, prog_4_method_13_code, 2, (some .boolean)) := rfl
set_option maxRecDepth 20000 in
theorem m_131 : tb_m 131 = some (10, ⟨"EventHall$Floor", "seize", "(LEventHall$Proc;II)V"⟩, 3, prog_2_method_10_code, 5, none) := rfl
set_option maxRecDepth 20000 in
theorem m_132 : tb_m 132 = some (10, ⟨"EventHall$Floor", "makeWait", "(LEventHall$Proc;II)V"⟩, 3, prog_2_method_9_code, 5, none) := rfl
set_option maxRecDepth 20000 in
theorem m_133 : tb_m 133 = some (10, ⟨"EventHall$Floor", "giveBack", "(LEventHall$Proc;I)Z"⟩, 2, prog_2_method_11_code, 5, (some .boolean)) := rfl
set_option maxRecDepth 20000 in
theorem m_134 : tb_m 134 = some (8, ⟨"EventHall$Place", "countLate", "(J)V"⟩, 1, prog_6_method_5_code, 3, none) := rfl
set_option maxRecDepth 20000 in
theorem m_135 : tb_m 135 = some (10, ⟨"EventHall$Floor", "trade", "(LEventHall$Proc;IIZ)I"⟩, 4, prog_2_method_12_code, 7, (some .int)) := rfl
set_option maxRecDepth 20000 in
theorem m_136 : tb_m 136 = some (10, ⟨"EventHall$Floor", "serve", "(LEventHall$Place;LEventHall$Proc;)Z"⟩, 2, prog_2_method_13_code, 6, (some .boolean)) := rfl
set_option maxRecDepth 20000 in
theorem m_137 : tb_m 137 = some (8, ⟨"EventHall$Place", "serveNext", "()LEventHall$Proc;"⟩, 0, prog_6_method_6_code, 3, (some (.object "EventHall$Proc"))) := rfl
set_option maxRecDepth 20000 in
theorem m_138 : tb_m 138 = some (7, ⟨"EventHall$Line", "takeFirst", "()LEventHall$Proc;"⟩, 0, prog_5_method_4_code, 2, (some (.object "EventHall$Proc"))) := rfl
set_option maxRecDepth 20000 in
theorem m_139 : tb_m 139 = some (10, ⟨"EventHall$Floor", "makeAwait", "(LEventHall$Proc;)V"⟩, 1, prog_2_method_8_code, 2, none) := rfl
set_option maxRecDepth 20000 in
theorem m_140 : tb_m 140 = some (11, ⟨"EventHall$Hall", "startAnother", "(I)I"⟩, 1, prog_4_method_15_code, 6, (some .int)) := rfl
set_option maxRecDepth 20000 in
theorem m_141 : tb_m 141 = some (10, ⟨"EventHall$Floor", "find", "(I)LEventHall$Proc;"⟩, 1, prog_2_method_4_code, 2, (some (.object "EventHall$Proc"))) := rfl
set_option maxRecDepth 20000 in
theorem m_142 : tb_m 142 = some (10, ⟨"EventHall$Floor", "finish", "(LEventHall$Proc;I)V"⟩, 2, prog_2_method_14_code, 7, none) := rfl
set_option maxRecDepth 20000 in
theorem m_143 : tb_m 143 = some (6, ⟨"EventHall$Proc", "isOver", "()Z"⟩, 0, prog_7_method_5_code, 1, (some .boolean)) := rfl
set_option maxRecDepth 20000 in
theorem m_144 : tb_m 144 = some (10, ⟨"EventHall$Floor", "wake", "(LEventHall$Proc;)V"⟩, 1, prog_2_method_7_code, 2, none) := rfl
set_option maxRecDepth 20000 in
theorem m_145 : tb_m 145 = some (11, ⟨"EventHall$Hall", "say", "(I)V"⟩, 1, prog_4_method_16_code, 2, none) := rfl
set_option maxRecDepth 20000 in
theorem m_146 : tb_m 146 = some (11, ⟨"EventHall$Hall", "goToStatement", "(LEventHall$Proc;)V"⟩, 1, prog_4_method_10_code, 3, none) := rfl
set_option maxRecDepth 20000 in
theorem m_147 : tb_m 147 = some (11, ⟨"EventHall$Hall", "closeTurn", "()V"⟩, 0, prog_4_method_11_code, 4, none) := rfl
set_option maxRecDepth 20000 in
theorem m_148 : tb_m 148 = some (11, ⟨"EventHall$Hall", "beginTurn", "()I"⟩, 0, prog_4_method_8_code, 2, (some .int)) := rfl
set_option maxRecDepth 20000 in
theorem m_149 : tb_m 149 = some (9, ⟨"EventHall$World", "goTo", "(I)V"⟩, 1, prog_11_method_7_code, 6, none) := rfl
set_option maxRecDepth 20000 in
theorem m_150 : tb_m 150 = some (8, ⟨"EventHall$Place", "pass", "(J)V"⟩, 1, prog_6_method_4_code, 3, none) := rfl
set_option maxRecDepth 20000 in
theorem m_151 : tb_m 151 = some (1, ⟨"EventHall", "turn", "(I)I"⟩, 1, prog_1_method_9_code, 2, (some .int)) := rfl
set_option maxRecDepth 20000 in
theorem m_152 : tb_m 152 = some (11, ⟨"EventHall$Hall", "doTurn", "(I)I"⟩, 1, prog_4_method_7_code, 4, (some .int)) := rfl
set_option maxRecDepth 20000 in
theorem m_153 : tb_m 153 = some (1, ⟨"EventHall", "state", "(I)I"⟩, 1, prog_1_method_11_code, 2, (some .int)) := rfl
set_option maxRecDepth 20000 in
theorem m_154 : tb_m 154 = some (11, ⟨"EventHall$Hall", "tellState", "(I)I"⟩, 1, prog_4_method_17_code, 2, (some .int)) := rfl
set_option maxRecDepth 20000 in
theorem m_155 : tb_m 155 = some (9, ⟨"EventHall$World", "waitingAtPlaces", "()I"⟩, 0, prog_11_method_6_code, 3, (some .int)) := rfl
set_option maxRecDepth 20000 in
theorem m_156 : tb_m 156 = some (1, ⟨"EventHall", "number", "(I)I"⟩, 1, prog_1_method_12_code, 2, (some .int)) := rfl
set_option maxRecDepth 20000 in
theorem m_157 : tb_m 157 = some (1, ⟨"EventHall", "process", "(II)I"⟩, 2, prog_1_method_13_code, 4, (some .int)) := rfl
set_option maxRecDepth 20000 in
theorem m_158 : tb_m 158 = some (11, ⟨"EventHall$Hall", "tellProcess", "(LEventHall$Proc;I)I"⟩, 2, prog_4_method_18_code, 4, (some .int)) := rfl
set_option maxRecDepth 20000 in
theorem m_159 : tb_m 159 = some (6, ⟨"EventHall$Proc", "isInCalendar", "()Z"⟩, 0, prog_7_method_4_code, 1, (some .boolean)) := rfl
set_option maxRecDepth 20000 in
theorem m_160 : tb_m 160 = some (3, ⟨"EventHall$Program", "outerPlace", "(I)I"⟩, 1, prog_8_method_10_code, 2, (some .int)) := rfl
set_option maxRecDepth 20000 in
theorem m_161 : tb_m 161 = some (6, ⟨"EventHall$Proc", "unitsInAll", "()I"⟩, 0, prog_7_method_3_code, 3, (some .int)) := rfl
set_option maxRecDepth 20000 in
theorem m_162 : tb_m 162 = some (11, ⟨"EventHall$Hall", "tellVariable", "(LEventHall$Proc;I)I"⟩, 2, prog_4_method_19_code, 4, (some .int)) := rfl
set_option maxRecDepth 20000 in
theorem m_163 : tb_m 163 = some (1, ⟨"EventHall", "place", "(II)I"⟩, 2, prog_1_method_14_code, 4, (some .int)) := rfl
set_option maxRecDepth 20000 in
theorem m_164 : tb_m 164 = some (3, ⟨"EventHall$Program", "innerPlace", "(I)I"⟩, 1, prog_8_method_9_code, 3, (some .int)) := rfl
set_option maxRecDepth 20000 in
theorem m_165 : tb_m 165 = some (8, ⟨"EventHall$Place", "tell", "(I)I"⟩, 1, prog_6_method_7_code, 2, (some .int)) := rfl
set_option maxRecDepth 20000 in
theorem m_166 : tb_m 166 = some (8, ⟨"EventHall$Place", "tellWaiting", "(I)I"⟩, 1, prog_6_method_8_code, 3, (some .int)) := rfl
set_option maxRecDepth 20000 in
theorem m_167 : tb_m 167 = some (7, ⟨"EventHall$Line", "find", "(I)LEventHall$Proc;"⟩, 1, prog_5_method_6_code, 4, (some (.object "EventHall$Proc"))) := rfl
set_option maxRecDepth 20000 in
theorem m_168 : tb_m 168 = some (1, ⟨"EventHall", "sum", "(II)J"⟩, 2, prog_1_method_15_code, 4, (some .long)) := rfl
set_option maxRecDepth 20000 in
theorem m_169 : tb_m 169 = some (8, ⟨"EventHall$Place", "tellSum", "(I)J"⟩, 1, prog_6_method_9_code, 2, (some .long)) := rfl
set_option maxRecDepth 20000 in
theorem m_170 : tb_m 170 = some (1, ⟨"EventHall", "trace", "(II)I"⟩, 2, prog_1_method_16_code, 3, (some .int)) := rfl
set_option maxRecDepth 20000 in
theorem m_171 : tb_m 171 = some (11, ⟨"EventHall$Hall", "tellTrace", "(II)I"⟩, 2, prog_4_method_20_code, 3, (some .int)) := rfl
set_option maxRecDepth 20000 in
theorem m_173 : tb_m 173 = some (12, ⟨"EventHallModel", "feed", "(IIIII)I"⟩, 5, prog_13_method_2_code, 8, (some .int)) := rfl
set_option maxRecDepth 20000 in
theorem m_174 : tb_m 174 = some (12, ⟨"EventHallModel", "end", "(I)I"⟩, 1, prog_13_method_3_code, 2, (some .int)) := rfl
set_option maxRecDepth 20000 in
theorem m_175 : tb_m 175 = some (12, ⟨"EventHallModel", "load", "()I"⟩, 0, prog_13_method_45_code, 3, (some .int)) := rfl
set_option maxRecDepth 20000 in
theorem m_176 : tb_m 176 = some (12, ⟨"EventHallModel", "next", "()V"⟩, 0, prog_13_method_11_code, 3, none) := rfl
set_option maxRecDepth 20000 in
theorem m_177 : tb_m 177 = some (12, ⟨"EventHallModel", "good", "()Z"⟩, 0, prog_13_method_4_code, 1, (some .boolean)) := rfl
set_option maxRecDepth 20000 in
theorem m_178 : tb_m 178 = some (12, ⟨"EventHallModel", "peek", "()I"⟩, 0, prog_13_method_7_code, 1, (some .int)) := rfl
set_option maxRecDepth 20000 in
theorem m_179 : tb_m 179 = some (12, ⟨"EventHallModel", "isLetter", "(I)Z"⟩, 1, prog_13_method_8_code, 1, (some .boolean)) := rfl
set_option maxRecDepth 20000 in
theorem m_180 : tb_m 180 = some (12, ⟨"EventHallModel", "fail", "(II)V"⟩, 2, prog_13_method_5_code, 3, none) := rfl
set_option maxRecDepth 20000 in
theorem m_181 : tb_m 181 = some (12, ⟨"EventHallModel", "skip", "()V"⟩, 0, prog_13_method_10_code, 3, none) := rfl
set_option maxRecDepth 20000 in
theorem m_182 : tb_m 182 = some (12, ⟨"EventHallModel", "isDigit", "(I)Z"⟩, 1, prog_13_method_9_code, 1, (some .boolean)) := rfl
set_option maxRecDepth 20000 in
theorem m_183 : tb_m 183 = some (12, ⟨"EventHallModel", "need", "(ZI)V"⟩, 2, prog_13_method_6_code, 3, none) := rfl
set_option maxRecDepth 20000 in
theorem m_184 : tb_m 184 = some (12, ⟨"EventHallModel", "sign", "(I)V"⟩, 1, prog_13_method_12_code, 5, none) := rfl
set_option maxRecDepth 20000 in
theorem m_185 : tb_m 185 = some (12, ⟨"EventHallModel", "reserved", "()I"⟩, 0, prog_13_method_13_code, 5, (some .int)) := rfl
set_option maxRecDepth 20000 in
theorem m_186 : tb_m 186 = some (12, ⟨"EventHallModel", "takeResource", "()V"⟩, 0, prog_13_method_22_code, 3, none) := rfl
set_option maxRecDepth 20000 in
theorem m_187 : tb_m 187 = some (12, ⟨"EventHallModel", "freshName", "(Z)V"⟩, 1, prog_13_method_20_code, 3, none) := rfl
set_option maxRecDepth 20000 in
theorem m_188 : tb_m 188 = some (12, ⟨"EventHallModel", "findResource", "(J)I"⟩, 1, prog_13_method_15_code, 4, (some .int)) := rfl
set_option maxRecDepth 20000 in
theorem m_189 : tb_m 189 = some (12, ⟨"EventHallModel", "findStore", "(J)I"⟩, 1, prog_13_method_16_code, 4, (some .int)) := rfl
set_option maxRecDepth 20000 in
theorem m_190 : tb_m 190 = some (12, ⟨"EventHallModel", "findDefinition", "(J)I"⟩, 1, prog_13_method_18_code, 4, (some .int)) := rfl
set_option maxRecDepth 20000 in
theorem m_191 : tb_m 191 = some (12, ⟨"EventHallModel", "findLocal", "(J)I"⟩, 1, prog_13_method_19_code, 4, (some .int)) := rfl
set_option maxRecDepth 20000 in
theorem m_192 : tb_m 192 = some (12, ⟨"EventHallModel", "findNumber", "(J)I"⟩, 1, prog_13_method_17_code, 4, (some .int)) := rfl
set_option maxRecDepth 20000 in
theorem m_193 : tb_m 193 = some (12, ⟨"EventHallModel", "limit", "(Z)V"⟩, 1, prog_13_method_21_code, 2, none) := rfl
set_option maxRecDepth 20000 in
theorem m_194 : tb_m 194 = some (12, ⟨"EventHallModel", "must", "(I)V"⟩, 1, prog_13_method_14_code, 2, none) := rfl
set_option maxRecDepth 20000 in
theorem m_195 : tb_m 195 = some (12, ⟨"EventHallModel", "takeStore", "()V"⟩, 0, prog_13_method_23_code, 4, none) := rfl
set_option maxRecDepth 20000 in
theorem m_196 : tb_m 196 = some (12, ⟨"EventHallModel", "takeNumbers", "()V"⟩, 0, prog_13_method_24_code, 2, none) := rfl
set_option maxRecDepth 20000 in
theorem m_197 : tb_m 197 = some (12, ⟨"EventHallModel", "takeProcess", "()V"⟩, 0, prog_13_method_27_code, 4, none) := rfl
set_option maxRecDepth 20000 in
theorem m_198 : tb_m 198 = some (12, ⟨"EventHallModel", "takeLocal", "()V"⟩, 0, prog_13_method_25_code, 1, none) := rfl
set_option maxRecDepth 20000 in
theorem m_199 : tb_m 199 = some (12, ⟨"EventHallModel", "addLocal", "(J)V"⟩, 1, prog_13_method_26_code, 3, none) := rfl
set_option maxRecDepth 20000 in
theorem m_200 : tb_m 200 = some (12, ⟨"EventHallModel", "beginBlock", "(II)V"⟩, 2, prog_13_method_29_code, 3, none) := rfl
set_option maxRecDepth 20000 in
theorem m_201 : tb_m 201 = some (12, ⟨"EventHallModel", "endBlock", "()V"⟩, 0, prog_13_method_30_code, 4, none) := rfl
set_option maxRecDepth 20000 in
theorem m_202 : tb_m 202 = some (12, ⟨"EventHallModel", "line", "(I)I"⟩, 1, prog_13_method_28_code, 3, (some .int)) := rfl
set_option maxRecDepth 20000 in
theorem m_203 : tb_m 203 = some (12, ⟨"EventHallModel", "takeStatement", "()V"⟩, 0, prog_13_method_31_code, 5, none) := rfl
set_option maxRecDepth 20000 in
theorem m_204 : tb_m 204 = some (12, ⟨"EventHallModel", "takeExp", "(Z)I"⟩, 1, prog_13_method_39_code, 4, (some .int)) := rfl
set_option maxRecDepth 20000 in
theorem m_205 : tb_m 205 = some (12, ⟨"EventHallModel", "takeOne", "(Z)V"⟩, 1, prog_13_method_41_code, 3, none) := rfl
set_option maxRecDepth 20000 in
theorem m_206 : tb_m 206 = some (12, ⟨"EventHallModel", "wait1", "(II)V"⟩, 2, prog_13_method_35_code, 3, none) := rfl
set_option maxRecDepth 20000 in
theorem m_207 : tb_m 207 = some (12, ⟨"EventHallModel", "open", "(I)V"⟩, 1, prog_13_method_40_code, 2, none) := rfl
set_option maxRecDepth 20000 in
theorem m_208 : tb_m 208 = some (12, ⟨"EventHallModel", "takePlain", "(I)V"⟩, 1, prog_13_method_42_code, 5, none) := rfl
set_option maxRecDepth 20000 in
theorem m_209 : tb_m 209 = some (12, ⟨"EventHallModel", "add", "(II)I"⟩, 2, prog_13_method_34_code, 4, (some .int)) := rfl
set_option maxRecDepth 20000 in
theorem m_210 : tb_m 210 = some (12, ⟨"EventHallModel", "endOne", "()V"⟩, 0, prog_13_method_38_code, 1, none) := rfl
set_option maxRecDepth 20000 in
theorem m_211 : tb_m 211 = some (12, ⟨"EventHallModel", "settleTo", "(I)V"⟩, 1, prog_13_method_37_code, 2, none) := rfl
set_option maxRecDepth 20000 in
theorem m_212 : tb_m 212 = some (12, ⟨"EventHallModel", "settle", "()V"⟩, 0, prog_13_method_36_code, 3, none) := rfl
set_option maxRecDepth 20000 in
theorem m_213 : tb_m 213 = some (12, ⟨"EventHallModel", "takeSign", "()V"⟩, 0, prog_13_method_44_code, 4, none) := rfl
set_option maxRecDepth 20000 in
theorem m_214 : tb_m 214 = some (12, ⟨"EventHallModel", "rankOf", "(I)I"⟩, 1, prog_13_method_43_code, 1, (some .int)) := rfl
set_option maxRecDepth 20000 in
theorem m_215 : tb_m 215 = some (12, ⟨"EventHallModel", "takeRest", "(II)V"⟩, 2, prog_13_method_32_code, 5, none) := rfl
set_option maxRecDepth 20000 in
theorem m_216 : tb_m 216 = some (12, ⟨"EventHallModel", "takeStart", "(I)V"⟩, 1, prog_13_method_33_code, 5, none) := rfl
set_option maxRecDepth 20000 in
theorem m_217 : tb_m 217 = some (12, ⟨"EventHallModel", "beginAll", "()V"⟩, 0, prog_13_method_46_code, 2, none) := rfl
set_option maxRecDepth 20000 in
theorem m_218 : tb_m 218 = some (12, ⟨"EventHallModel", "seed", "(I)I"⟩, 1, prog_13_method_75_code, 3, (some .int)) := rfl
set_option maxRecDepth 20000 in
theorem m_219 : tb_m 219 = some (12, ⟨"EventHallModel", "start", "(IIIII)I"⟩, 5, prog_13_method_76_code, 8, (some .int)) := rfl
set_option maxRecDepth 20000 in
theorem m_220 : tb_m 220 = some (12, ⟨"EventHallModel", "fresh", "(II)I"⟩, 2, prog_13_method_72_code, 5, (some .int)) := rfl
set_option maxRecDepth 20000 in
theorem m_221 : tb_m 221 = some (12, ⟨"EventHallModel", "calendar", "(III)V"⟩, 3, prog_13_method_55_code, 4, none) := rfl
set_option maxRecDepth 20000 in
theorem m_222 : tb_m 222 = some (12, ⟨"EventHallModel", "run", "(I)I"⟩, 1, prog_13_method_77_code, 3, (some .int)) := rfl
set_option maxRecDepth 20000 in
theorem m_223 : tb_m 223 = some (12, ⟨"EventHallModel", "begin", "()Z"⟩, 0, prog_13_method_64_code, 2, (some .boolean)) := rfl
set_option maxRecDepth 20000 in
theorem m_224 : tb_m 224 = some (12, ⟨"EventHallModel", "taken", "()I"⟩, 0, prog_13_method_62_code, 3, (some .int)) := rfl
set_option maxRecDepth 20000 in
theorem m_225 : tb_m 225 = some (12, ⟨"EventHallModel", "goOn", "(I)V"⟩, 1, prog_13_method_63_code, 5, none) := rfl
set_option maxRecDepth 20000 in
theorem m_226 : tb_m 226 = some (12, ⟨"EventHallModel", "waitingAt", "(I)I"⟩, 1, prog_13_method_47_code, 2, (some .int)) := rfl
set_option maxRecDepth 20000 in
theorem m_227 : tb_m 227 = some (12, ⟨"EventHallModel", "settleLine", "(I)V"⟩, 1, prog_13_method_65_code, 2, none) := rfl
set_option maxRecDepth 20000 in
theorem m_228 : tb_m 228 = some (12, ⟨"EventHallModel", "finish", "(II)V"⟩, 2, prog_13_method_61_code, 5, none) := rfl
set_option maxRecDepth 20000 in
theorem m_229 : tb_m 229 = some (12, ⟨"EventHallModel", "leaveRow", "(II)V"⟩, 2, prog_13_method_53_code, 4, none) := rfl
set_option maxRecDepth 20000 in
theorem m_230 : tb_m 230 = some (12, ⟨"EventHallModel", "drop", "(II)V"⟩, 2, prog_13_method_52_code, 4, none) := rfl
set_option maxRecDepth 20000 in
theorem m_231 : tb_m 231 = some (12, ⟨"EventHallModel", "serveStore", "(I)V"⟩, 1, prog_13_method_59_code, 7, none) := rfl
set_option maxRecDepth 20000 in
theorem m_232 : tb_m 232 = some (12, ⟨"EventHallModel", "count", "(II)V"⟩, 2, prog_13_method_57_code, 4, none) := rfl
set_option maxRecDepth 20000 in
theorem m_233 : tb_m 233 = some (12, ⟨"EventHallModel", "leaveAwaits", "(I)V"⟩, 1, prog_13_method_54_code, 4, none) := rfl
set_option maxRecDepth 20000 in
theorem m_234 : tb_m 234 = some (12, ⟨"EventHallModel", "serveResource", "(I)V"⟩, 1, prog_13_method_58_code, 3, none) := rfl
set_option maxRecDepth 20000 in
theorem m_235 : tb_m 235 = some (12, ⟨"EventHallModel", "endTurn", "()V"⟩, 0, prog_13_method_66_code, 5, none) := rfl
set_option maxRecDepth 20000 in
theorem m_236 : tb_m 236 = some (12, ⟨"EventHallModel", "reckon", "(II)I"⟩, 2, prog_13_method_49_code, 8, (some .int)) := rfl
set_option maxRecDepth 20000 in
theorem m_237 : tb_m 237 = some (12, ⟨"EventHallModel", "draw", "(I)I"⟩, 1, prog_13_method_48_code, 2, (some .int)) := rfl
set_option maxRecDepth 20000 in
theorem m_238 : tb_m 238 = some (12, ⟨"EventHallModel", "two", "(III)I"⟩, 3, prog_13_method_50_code, 4, (some .int)) := rfl
set_option maxRecDepth 20000 in
theorem m_239 : tb_m 239 = some (12, ⟨"EventHallModel", "step", "()V"⟩, 0, prog_13_method_67_code, 5, none) := rfl
set_option maxRecDepth 20000 in
theorem m_240 : tb_m 240 = some (12, ⟨"EventHallModel", "perform", "(II)V"⟩, 2, prog_13_method_68_code, 4, none) := rfl
set_option maxRecDepth 20000 in
theorem m_241 : tb_m 241 = some (12, ⟨"EventHallModel", "seize", "(III)V"⟩, 3, prog_13_method_69_code, 5, none) := rfl
set_option maxRecDepth 20000 in
theorem m_242 : tb_m 242 = some (12, ⟨"EventHallModel", "enter", "(IIII)V"⟩, 4, prog_13_method_51_code, 6, none) := rfl
set_option maxRecDepth 20000 in
theorem m_243 : tb_m 243 = some (12, ⟨"EventHallModel", "waits", "(III)V"⟩, 3, prog_13_method_56_code, 4, none) := rfl
set_option maxRecDepth 20000 in
theorem m_244 : tb_m 244 = some (12, ⟨"EventHallModel", "free", "(II)V"⟩, 2, prog_13_method_70_code, 3, none) := rfl
set_option maxRecDepth 20000 in
theorem m_245 : tb_m 245 = some (12, ⟨"EventHallModel", "exchange", "(IIIZ)V"⟩, 4, prog_13_method_71_code, 7, none) := rfl
set_option maxRecDepth 20000 in
theorem m_246 : tb_m 246 = some (12, ⟨"EventHallModel", "isIn", "(II)Z"⟩, 2, prog_13_method_60_code, 5, (some .boolean)) := rfl
set_option maxRecDepth 20000 in
theorem m_247 : tb_m 247 = some (12, ⟨"EventHallModel", "startOne", "(II)V"⟩, 2, prog_13_method_73_code, 6, none) := rfl
set_option maxRecDepth 20000 in
theorem m_248 : tb_m 248 = some (12, ⟨"EventHallModel", "other", "(IIZ)V"⟩, 3, prog_13_method_74_code, 4, none) := rfl
set_option maxRecDepth 20000 in
theorem m_249 : tb_m 249 = some (12, ⟨"EventHallModel", "turn", "(I)I"⟩, 1, prog_13_method_78_code, 4, (some .int)) := rfl
set_option maxRecDepth 20000 in
theorem m_250 : tb_m 250 = some (12, ⟨"EventHallModel", "state", "(I)I"⟩, 1, prog_13_method_80_code, 2, (some .int)) := rfl
set_option maxRecDepth 20000 in
theorem m_251 : tb_m 251 = some (12, ⟨"EventHallModel", "countOf", "(II)I"⟩, 2, prog_13_method_79_code, 5, (some .int)) := rfl
set_option maxRecDepth 20000 in
theorem m_252 : tb_m 252 = some (12, ⟨"EventHallModel", "number", "(I)I"⟩, 1, prog_13_method_81_code, 2, (some .int)) := rfl
set_option maxRecDepth 20000 in
theorem m_253 : tb_m 253 = some (12, ⟨"EventHallModel", "process", "(II)I"⟩, 2, prog_13_method_83_code, 5, (some .int)) := rfl
set_option maxRecDepth 20000 in
theorem m_254 : tb_m 254 = some (12, ⟨"EventHallModel", "localsOf", "(I)I"⟩, 1, prog_13_method_82_code, 4, (some .int)) := rfl
set_option maxRecDepth 20000 in
theorem m_255 : tb_m 255 = some (12, ⟨"EventHallModel", "place", "(II)I"⟩, 2, prog_13_method_85_code, 6, (some .int)) := rfl
set_option maxRecDepth 20000 in
theorem m_256 : tb_m 256 = some (12, ⟨"EventHallModel", "spot", "(I)I"⟩, 1, prog_13_method_84_code, 2, (some .int)) := rfl
set_option maxRecDepth 20000 in
theorem m_257 : tb_m 257 = some (12, ⟨"EventHallModel", "sum", "(II)J"⟩, 2, prog_13_method_86_code, 4, (some .long)) := rfl
set_option maxRecDepth 20000 in
theorem m_258 : tb_m 258 = some (12, ⟨"EventHallModel", "trace", "(II)I"⟩, 2, prog_13_method_87_code, 3, (some .int)) := rfl
def cX_append_3_b (kk : Int32 → Int32 → ts → Option (ts)) (l1 : Int32) (l2 : Int32) (s : ts) : Option (ts) := (if l2 < ((0 : Int32)) then some s else (if ((4000 : Int32)) ≤ (gI s 1 0) then kk l1 (l2 + (-8 : Int32)) s else (if am_idx (gI s 1 0) 4000 = true then kk l1 (l2 + (-8 : Int32)) (wI (wA s 6 (gI s 1 0).toNatClampNeg (vp_nar .byte ((l1 >>> (l2 &&& 31)).toInt8.toInt32))) 1 0 ((gI (wA s 6 (gI s 1 0).toNatClampNeg (vp_nar .byte ((l1 >>> (l2 &&& 31)).toInt8.toInt32))) 1 0) + ((1 : Int32)))) else none)))
def cX_append_3 : Nat → Int32 → Int32 → ts → Option (ts)
  | 0, _, _, _ => none
  | n + 1, l1, l2, s => cX_append_3_b (cX_append_3 n) l1 l2 s
set_option maxRecDepth 20000 in
theorem cX_append_3_ok {d : Nat} : ∀ (n : Nat) (l1 : Int32) (l2 : Int32) (s : ts) (Q : ts → Prop), Ok (cX_append_3 n l1 l2 s) Q → am_Ev (d + 0) 19 (3, [(0, .ref 5), (1, .int (l1)), (2, .int (l2))], []) (lay s) (tq_v Q) := by
  intro n
  induction n with
  | zero => intro l1 l2 s Q h; exact Ok_n h
  | succ n ih =>
    intro l1 l2 s Q h
    rw [cX_append_3.eq_2] at h
    unfold cX_append_3_b at h
    refine ev_iload_n (pc' := 4) m_19 rfl rfl rfl ?_
    refine ev_if_lt (t := 46) (e := 7) m_19 rfl rfl rfl (fun c3 => ?_) (fun c3 => ?_)
    · replace h := Ok_t c3 h
      exact tr_rv m_19 rfl rfl (Ok_s h)
    · replace h := Ok_f c3 h
      refine ev_aload_n (pc' := 8) m_19 rfl rfl rfl (tr_get (pc' := 11) (v := .int (gI _ 1 _)) m_19 rfl rfl ts_o5 rfl rfl rfl (ev_sipush (pc' := 14) (x := 4000) m_19 rfl rfl rfl ?_))
      refine ev_icmp_ge (t := 40) (e := 17) m_19 rfl rfl rfl (fun c2 => ?_) (fun c2 => ?_)
      · replace h := Ok_t c2 h
        refine ev_iinc (pc' := 43) (z := -8) m_19 rfl rfl rfl rfl rfl rfl (ev_goto (pc' := 3) m_19 rfl rfl ?_)
        exact am_Ev.sub (L := [(0, .ref 5), (1, .int (l1)), (2, .int (l2 + (-8 : Int32)))]) ⟨rfl, rfl, rfl, trivial⟩ (ih l1 (l2 + (-8 : Int32)) _ _ h)
      · replace h := Ok_f c2 h
        refine ev_aload_n (pc' := 18) m_19 rfl rfl rfl (tr_get (pc' := 21) (v := .ref 6) m_19 rfl rfl ts_o5 rfl rfl rfl (ev_aload_n (pc' := 22) m_19 rfl rfl rfl (tr_get (pc' := 25) (v := .int (gI _ 1 _)) m_19 rfl rfl ts_o5 rfl rfl rfl (ev_iload_n (pc' := 26) m_19 rfl rfl rfl (ev_iload_n (pc' := 27) m_19 rfl rfl rfl (ev_ishr (pc' := 28) m_19 rfl rfl (ev_i2b (pc' := 29) m_19 rfl rfl ?_)))))))
        obtain ⟨g1, h⟩ := Ok_g h
        refine tr_bast (pc' := 30) m_19 rfl rfl rfl g1 rfl (ev_aload_n (pc' := 31) m_19 rfl rfl rfl (ev_dup (pc' := 32) m_19 rfl rfl rfl (tr_get (pc' := 35) (v := .int (gI _ 1 _)) m_19 rfl rfl ts_o5 rfl rfl rfl (ev_iconst (pc' := 36) (x := 1) m_19 rfl rfl rfl (ev_iadd (pc' := 37) m_19 rfl rfl (tr_pI (pc' := 40) (f := 1) m_19 rfl rfl rfl ts_o5 rfl rfl rfl rfl (ev_iinc (pc' := 43) (z := -8) m_19 rfl rfl rfl rfl rfl rfl ?_)))))))
        refine ev_goto (pc' := 3) m_19 rfl rfl ?_
        exact am_Ev.sub (L := [(0, .ref 5), (1, .int (l1)), (2, .int (l2 + (-8 : Int32)))]) ⟨rfl, rfl, rfl, trivial⟩ (ih l1 (l2 + (-8 : Int32)) _ _ h)
def cX_append (l1 : Int32) (s : ts) : Option (ts) := cX_append_3 tm_N l1 ((24 : Int32)) s
set_option maxRecDepth 20000 in
theorem cX_append_ok {d : Nat} (l1 : Int32) (s : ts) (Q : ts → Prop) (h : Ok (cX_append l1 s) Q) : am_Ev (d + 0) 19 (0, [(0, .ref 5), (1, .int (l1))], []) (lay s) (tq_v Q) := by
  unfold cX_append at h
  refine ev_bipush (pc' := 2) (x := 24) m_19 rfl rfl rfl (ev_istore_n (pc' := 3) m_19 rfl rfl rfl rfl ?_)
  exact am_Ev.sub (L := [(0, .ref 5), (1, .int (l1)), (2, .int ((24 : Int32)))]) ⟨rfl, rfl, rfl, trivial⟩ (cX_append_3_ok tm_N l1 ((24 : Int32)) _ _ h)
def cX_feed (l1 : Int32) (l2 : Int32) (l3 : Int32) (l4 : Int32) (l5 : Int32) (s : ts) : Option (Int32 × ts) := (if ((gI s 1 0) + ((20 : Int32))) ≤ ((4000 : Int32)) then (cX_append l1 s).bind (fun s2 => (cX_append l2 s2).bind (fun s5 => (cX_append l3 s5).bind (fun s8 => (cX_append l4 s8).bind (fun s11 => (cX_append l5 s11).bind (fun s14 => some (gI s14 1 0, s14)))))) else some ((-1 : Int32), s))
set_option maxRecDepth 20000 in
theorem cX_feed_ok {d : Nat} (l1 : Int32) (l2 : Int32) (l3 : Int32) (l4 : Int32) (l5 : Int32) (s : ts) (Q : Int32 × ts → Prop) (h : Ok (cX_feed l1 l2 l3 l4 l5 s) Q) : am_Ev (d + 1) 18 (0, [(0, .ref 5), (1, .int (l1)), (2, .int (l2)), (3, .int (l3)), (4, .int (l4)), (5, .int (l5))], []) (lay s) (tq_i Q) := by
  unfold cX_feed at h
  refine ev_aload_n (pc' := 1) m_18 rfl rfl rfl (tr_get (pc' := 4) (v := .int (gI _ 1 _)) m_18 rfl rfl ts_o5 rfl rfl rfl (ev_bipush (pc' := 6) (x := 20) m_18 rfl rfl rfl (ev_iadd (pc' := 7) m_18 rfl rfl (ev_sipush (pc' := 10) (x := 4000) m_18 rfl rfl rfl ?_))))
  refine ev_icmp_le (t := 15) (e := 13) m_18 rfl rfl rfl (fun c16 => ?_) (fun c16 => ?_)
  · replace h := Ok_t c16 h
    refine ev_aload_n (pc' := 16) m_18 rfl rfl rfl (ev_iload_n (pc' := 17) m_18 rfl rfl rfl ?_)
    refine tr_cv (pc' := 20) m_18 rfl rfl rfl m_19 rfl rfl rfl rfl (tr_rcv ts_o5 rfl) rfl rfl (cX_append_ok l1 _ _ (Ok_b h)) (fun s2 h => ?_)
    refine ev_aload_n (pc' := 21) m_18 rfl rfl rfl (ev_iload_n (pc' := 22) m_18 rfl rfl rfl ?_)
    refine tr_cv (pc' := 25) m_18 rfl rfl rfl m_19 rfl rfl rfl rfl (tr_rcv ts_o5 rfl) rfl rfl (cX_append_ok l2 _ _ (Ok_b h)) (fun s5 h => ?_)
    refine ev_aload_n (pc' := 26) m_18 rfl rfl rfl (ev_iload_n (pc' := 27) m_18 rfl rfl rfl ?_)
    refine tr_cv (pc' := 30) m_18 rfl rfl rfl m_19 rfl rfl rfl rfl (tr_rcv ts_o5 rfl) rfl rfl (cX_append_ok l3 _ _ (Ok_b h)) (fun s8 h => ?_)
    refine ev_aload_n (pc' := 31) m_18 rfl rfl rfl (ev_iload (pc' := 33) m_18 rfl rfl rfl ?_)
    refine tr_cv (pc' := 36) m_18 rfl rfl rfl m_19 rfl rfl rfl rfl (tr_rcv ts_o5 rfl) rfl rfl (cX_append_ok l4 _ _ (Ok_b h)) (fun s11 h => ?_)
    refine ev_aload_n (pc' := 37) m_18 rfl rfl rfl (ev_iload (pc' := 39) m_18 rfl rfl rfl ?_)
    refine tr_cv (pc' := 42) m_18 rfl rfl rfl m_19 rfl rfl rfl rfl (tr_rcv ts_o5 rfl) rfl rfl (cX_append_ok l5 _ _ (Ok_b h)) (fun s14 h => ?_)
    refine ev_aload_n (pc' := 43) m_18 rfl rfl rfl (tr_get (pc' := 46) (v := .int (gI _ 1 _)) m_18 rfl rfl ts_o5 rfl rfl rfl ?_)
    exact tr_ri m_18 rfl rfl (Ok_s h)
  · replace h := Ok_f c16 h
    refine ev_iconst (pc' := 14) (x := -1) m_18 rfl rfl rfl ?_
    exact tr_ri m_18 rfl rfl (Ok_s h)
def cR_feed_71 (k18 : Int32 → Int32 → Int32 → Int32 → Int32 → Int32 → ts → Option (Int32 × ts)) (l1 : Int32) (l2 : Int32) (l3 : Int32) (l4 : Int32) (l5 : Int32) (l6 : Int32) (t0 : Int32) (s : ts) : Option (Int32 × ts) := (if am_idx (gI s 1101 0) 4000 = true then k18 l1 l2 l3 l4 l5 (l6 + (1 : Int32)) (wI (wA s 88 (gI s 1101 0).toNatClampNeg ((t0 >>> ((((24 : Int32)) - (((8 : Int32)) * (l6 - l6 / ((4 : Int32)) * ((4 : Int32))))) &&& 31)) &&& ((255 : Int32)))) 1101 0 ((gI (wA s 88 (gI s 1101 0).toNatClampNeg ((t0 >>> ((((24 : Int32)) - (((8 : Int32)) * (l6 - l6 / ((4 : Int32)) * ((4 : Int32))))) &&& 31)) &&& ((255 : Int32)))) 1101 0) + ((1 : Int32)))) else none)
set_option maxRecDepth 20000 in
theorem cR_feed_71_ok {d : Nat} (k18 : Int32 → Int32 → Int32 → Int32 → Int32 → Int32 → ts → Option (Int32 × ts)) (hk18 : ∀ (l1 : Int32) (l2 : Int32) (l3 : Int32) (l4 : Int32) (l5 : Int32) (l6 : Int32) (s : ts) (Q : Int32 × ts → Prop), Ok (k18 l1 l2 l3 l4 l5 l6 s) Q → am_Ev (d + 0) 173 (18, [(0, .ref 87), (1, .int (l1)), (2, .int (l2)), (3, .int (l3)), (4, .int (l4)), (5, .int (l5)), (6, .int (l6))], []) (lay s) (tq_i Q)) (l1 : Int32) (l2 : Int32) (l3 : Int32) (l4 : Int32) (l5 : Int32) (l6 : Int32) (t0 : Int32) (s : ts) (Q : Int32 × ts → Prop) (h : Ok (cR_feed_71 k18 l1 l2 l3 l4 l5 l6 t0 s) Q) : am_Ev (d + 0) 173 (71, [(0, .ref 87), (1, .int (l1)), (2, .int (l2)), (3, .int (l3)), (4, .int (l4)), (5, .int (l5)), (6, .int (l6))], [.int (t0)]) (lay s) (tq_i Q) := by
  unfold cR_feed_71 at h
  refine ev_istore (pc' := 73) m_173 rfl rfl rfl rfl (ev_aload_n (pc' := 74) m_173 rfl rfl rfl (tr_get (pc' := 77) (v := .ref 88) m_173 rfl rfl ts_o87 rfl rfl rfl (ev_aload_n (pc' := 78) m_173 rfl rfl rfl (tr_get (pc' := 81) (v := .int (gI _ 1101 _)) m_173 rfl rfl ts_o87 rfl rfl rfl (ev_iload (pc' := 83) m_173 rfl rfl rfl (ev_bipush (pc' := 85) (x := 24) m_173 rfl rfl rfl (ev_bipush (pc' := 87) (x := 8) m_173 rfl rfl rfl ?_)))))))
  refine ev_iload (pc' := 89) m_173 rfl rfl rfl (ev_iconst (pc' := 90) (x := 4) m_173 rfl rfl rfl (ev_irem (pc' := 91) m_173 rfl (by decide) rfl (ev_imul (pc' := 92) m_173 rfl rfl (ev_isub (pc' := 93) m_173 rfl rfl (ev_ishr (pc' := 94) m_173 rfl rfl (ev_sipush (pc' := 97) (x := 255) m_173 rfl rfl rfl (ev_iand (pc' := 98) m_173 rfl rfl ?_)))))))
  obtain ⟨g1, h⟩ := Ok_g h
  refine tr_iast (pc' := 99) m_173 rfl rfl rfl g1 rfl (ev_aload_n (pc' := 100) m_173 rfl rfl rfl (ev_dup (pc' := 101) m_173 rfl rfl rfl (tr_get (pc' := 104) (v := .int (gI _ 1101 _)) m_173 rfl rfl ts_o87 rfl rfl rfl (ev_iconst (pc' := 105) (x := 1) m_173 rfl rfl rfl (ev_iadd (pc' := 106) m_173 rfl rfl (tr_pI (pc' := 109) (f := 1101) m_173 rfl rfl rfl ts_o87 rfl rfl rfl rfl (ev_iinc (pc' := 112) (z := 1) m_173 rfl rfl rfl rfl rfl rfl ?_)))))))
  refine ev_goto (pc' := 18) m_173 rfl rfl ?_
  exact am_Ev.sub (L := [(0, .ref 87), (1, .int (l1)), (2, .int (l2)), (3, .int (l3)), (4, .int (l4)), (5, .int (l5)), (6, .int (l6 + (1 : Int32)))]) ⟨rfl, rfl, rfl, rfl, rfl, rfl, rfl, trivial⟩ (hk18 l1 l2 l3 l4 l5 (l6 + (1 : Int32)) _ _ h)
def cR_feed_18_b (kk : Int32 → Int32 → Int32 → Int32 → Int32 → Int32 → ts → Option (Int32 × ts)) (l1 : Int32) (l2 : Int32) (l3 : Int32) (l4 : Int32) (l5 : Int32) (l6 : Int32) (s : ts) : Option (Int32 × ts) := (if ((20 : Int32)) ≤ l6 then some (gI s 1101 0, s) else (if ((4 : Int32)) ≤ l6 then (if ((8 : Int32)) ≤ l6 then (if ((12 : Int32)) ≤ l6 then (if ((16 : Int32)) ≤ l6 then cR_feed_71 kk l1 l2 l3 l4 l5 l6 l5 s else cR_feed_71 kk l1 l2 l3 l4 l5 l6 l4 s) else cR_feed_71 kk l1 l2 l3 l4 l5 l6 l3 s) else cR_feed_71 kk l1 l2 l3 l4 l5 l6 l2 s) else cR_feed_71 kk l1 l2 l3 l4 l5 l6 l1 s))
def cR_feed_18 : Nat → Int32 → Int32 → Int32 → Int32 → Int32 → Int32 → ts → Option (Int32 × ts)
  | 0, _, _, _, _, _, _, _ => none
  | n + 1, l1, l2, l3, l4, l5, l6, s => cR_feed_18_b (cR_feed_18 n) l1 l2 l3 l4 l5 l6 s
set_option maxRecDepth 20000 in
theorem cR_feed_18_ok {d : Nat} : ∀ (n : Nat) (l1 : Int32) (l2 : Int32) (l3 : Int32) (l4 : Int32) (l5 : Int32) (l6 : Int32) (s : ts) (Q : Int32 × ts → Prop), Ok (cR_feed_18 n l1 l2 l3 l4 l5 l6 s) Q → am_Ev (d + 0) 173 (18, [(0, .ref 87), (1, .int (l1)), (2, .int (l2)), (3, .int (l3)), (4, .int (l4)), (5, .int (l5)), (6, .int (l6))], []) (lay s) (tq_i Q) := by
  intro n
  induction n with
  | zero => intro l1 l2 l3 l4 l5 l6 s Q h; exact Ok_n h
  | succ n ih =>
    intro l1 l2 l3 l4 l5 l6 s Q h
    rw [cR_feed_18.eq_2] at h
    unfold cR_feed_18_b at h
    refine ev_iload (pc' := 20) m_173 rfl rfl rfl (ev_bipush (pc' := 22) (x := 20) m_173 rfl rfl rfl ?_)
    refine ev_icmp_ge (t := 115) (e := 25) m_173 rfl rfl rfl (fun c5 => ?_) (fun c5 => ?_)
    · replace h := Ok_t c5 h
      refine ev_aload_n (pc' := 116) m_173 rfl rfl rfl (tr_get (pc' := 119) (v := .int (gI _ 1101 _)) m_173 rfl rfl ts_o87 rfl rfl rfl ?_)
      exact tr_ri m_173 rfl rfl (Ok_s h)
    · replace h := Ok_f c5 h
      refine ev_iload (pc' := 27) m_173 rfl rfl rfl (ev_iconst (pc' := 28) (x := 4) m_173 rfl rfl rfl ?_)
      refine ev_icmp_ge (t := 35) (e := 31) m_173 rfl rfl rfl (fun c4 => ?_) (fun c4 => ?_)
      · replace h := Ok_t c4 h
        refine ev_iload (pc' := 37) m_173 rfl rfl rfl (ev_bipush (pc' := 39) (x := 8) m_173 rfl rfl rfl ?_)
        refine ev_icmp_ge (t := 46) (e := 42) m_173 rfl rfl rfl (fun c3 => ?_) (fun c3 => ?_)
        · replace h := Ok_t c3 h
          refine ev_iload (pc' := 48) m_173 rfl rfl rfl (ev_bipush (pc' := 50) (x := 12) m_173 rfl rfl rfl ?_)
          refine ev_icmp_ge (t := 57) (e := 53) m_173 rfl rfl rfl (fun c2 => ?_) (fun c2 => ?_)
          · replace h := Ok_t c2 h
            refine ev_iload (pc' := 59) m_173 rfl rfl rfl (ev_bipush (pc' := 61) (x := 16) m_173 rfl rfl rfl ?_)
            refine ev_icmp_ge (t := 69) (e := 64) m_173 rfl rfl rfl (fun c1 => ?_) (fun c1 => ?_)
            · replace h := Ok_t c1 h
              refine ev_iload (pc' := 71) m_173 rfl rfl rfl ?_
              exact am_Ev.sub (L := [(0, .ref 87), (1, .int (l1)), (2, .int (l2)), (3, .int (l3)), (4, .int (l4)), (5, .int (l5)), (6, .int (l6))]) ⟨rfl, rfl, rfl, rfl, rfl, rfl, rfl, trivial⟩ (cR_feed_71_ok (cR_feed_18 n) ih l1 l2 l3 l4 l5 l6 l5 _ _ h)
            · replace h := Ok_f c1 h
              refine ev_iload (pc' := 66) m_173 rfl rfl rfl (ev_goto (pc' := 71) m_173 rfl rfl ?_)
              exact am_Ev.sub (L := [(0, .ref 87), (1, .int (l1)), (2, .int (l2)), (3, .int (l3)), (4, .int (l4)), (5, .int (l5)), (6, .int (l6))]) ⟨rfl, rfl, rfl, rfl, rfl, rfl, rfl, trivial⟩ (cR_feed_71_ok (cR_feed_18 n) ih l1 l2 l3 l4 l5 l6 l4 _ _ h)
          · replace h := Ok_f c2 h
            refine ev_iload_n (pc' := 54) m_173 rfl rfl rfl (ev_goto (pc' := 71) m_173 rfl rfl ?_)
            exact am_Ev.sub (L := [(0, .ref 87), (1, .int (l1)), (2, .int (l2)), (3, .int (l3)), (4, .int (l4)), (5, .int (l5)), (6, .int (l6))]) ⟨rfl, rfl, rfl, rfl, rfl, rfl, rfl, trivial⟩ (cR_feed_71_ok (cR_feed_18 n) ih l1 l2 l3 l4 l5 l6 l3 _ _ h)
        · replace h := Ok_f c3 h
          refine ev_iload_n (pc' := 43) m_173 rfl rfl rfl (ev_goto (pc' := 71) m_173 rfl rfl ?_)
          exact am_Ev.sub (L := [(0, .ref 87), (1, .int (l1)), (2, .int (l2)), (3, .int (l3)), (4, .int (l4)), (5, .int (l5)), (6, .int (l6))]) ⟨rfl, rfl, rfl, rfl, rfl, rfl, rfl, trivial⟩ (cR_feed_71_ok (cR_feed_18 n) ih l1 l2 l3 l4 l5 l6 l2 _ _ h)
      · replace h := Ok_f c4 h
        refine ev_iload_n (pc' := 32) m_173 rfl rfl rfl (ev_goto (pc' := 71) m_173 rfl rfl ?_)
        exact am_Ev.sub (L := [(0, .ref 87), (1, .int (l1)), (2, .int (l2)), (3, .int (l3)), (4, .int (l4)), (5, .int (l5)), (6, .int (l6))]) ⟨rfl, rfl, rfl, rfl, rfl, rfl, rfl, trivial⟩ (cR_feed_71_ok (cR_feed_18 n) ih l1 l2 l3 l4 l5 l6 l1 _ _ h)
def cR_feed (l1 : Int32) (l2 : Int32) (l3 : Int32) (l4 : Int32) (l5 : Int32) (s : ts) : Option (Int32 × ts) := (if ((gI s 1101 0) + ((20 : Int32))) ≤ ((4000 : Int32)) then cR_feed_18 tm_N l1 l2 l3 l4 l5 ((0 : Int32)) s else some ((-1 : Int32), s))
set_option maxRecDepth 20000 in
theorem cR_feed_ok {d : Nat} (l1 : Int32) (l2 : Int32) (l3 : Int32) (l4 : Int32) (l5 : Int32) (s : ts) (Q : Int32 × ts → Prop) (h : Ok (cR_feed l1 l2 l3 l4 l5 s) Q) : am_Ev (d + 0) 173 (0, [(0, .ref 87), (1, .int (l1)), (2, .int (l2)), (3, .int (l3)), (4, .int (l4)), (5, .int (l5))], []) (lay s) (tq_i Q) := by
  unfold cR_feed at h
  refine ev_aload_n (pc' := 1) m_173 rfl rfl rfl (tr_get (pc' := 4) (v := .int (gI _ 1101 _)) m_173 rfl rfl ts_o87 rfl rfl rfl (ev_bipush (pc' := 6) (x := 20) m_173 rfl rfl rfl (ev_iadd (pc' := 7) m_173 rfl rfl (ev_sipush (pc' := 10) (x := 4000) m_173 rfl rfl rfl ?_))))
  refine ev_icmp_le (t := 15) (e := 13) m_173 rfl rfl rfl (fun c1 => ?_) (fun c1 => ?_)
  · replace h := Ok_t c1 h
    refine ev_iconst (pc' := 16) (x := 0) m_173 rfl rfl rfl (ev_istore (pc' := 18) m_173 rfl rfl rfl rfl ?_)
    exact am_Ev.sub (L := [(0, .ref 87), (1, .int (l1)), (2, .int (l2)), (3, .int (l3)), (4, .int (l4)), (5, .int (l5)), (6, .int ((0 : Int32)))]) ⟨rfl, rfl, rfl, rfl, rfl, rfl, rfl, trivial⟩ (cR_feed_18_ok tm_N l1 l2 l3 l4 l5 ((0 : Int32)) _ _ h)
  · replace h := Ok_f c1 h
    refine ev_iconst (pc' := 14) (x := -1) m_173 rfl rfl rfl ?_
    exact tr_ri m_173 rfl rfl (Ok_s h)
def cX_end (l1 : Int32) (s : ts) : Option (Int32 × ts) := (if l1 < ((0 : Int32)) then some ((-1 : Int32), s) else (if ((20 : Int32)) < l1 then some ((-1 : Int32), s) else (if ((20 : Int32)) ≤ (gI s 1 0) then some (gI (wI s 1 0 (((gI s 1 0) - ((20 : Int32))) + l1)) 1 0, wI s 1 0 (((gI s 1 0) - ((20 : Int32))) + l1)) else some ((-1 : Int32), s))))
set_option maxRecDepth 20000 in
theorem cX_end_ok {d : Nat} (l1 : Int32) (s : ts) (Q : Int32 × ts → Prop) (h : Ok (cX_end l1 s) Q) : am_Ev (d + 0) 20 (0, [(0, .ref 5), (1, .int (l1))], []) (lay s) (tq_i Q) := by
  unfold cX_end at h
  refine ev_iload_n (pc' := 1) m_20 rfl rfl rfl ?_
  refine ev_if_lt (t := 19) (e := 4) m_20 rfl rfl rfl (fun c3 => ?_) (fun c3 => ?_)
  · replace h := Ok_t c3 h
    refine ev_iconst (pc' := 20) (x := -1) m_20 rfl rfl rfl ?_
    exact tr_ri m_20 rfl rfl (Ok_s h)
  · replace h := Ok_f c3 h
    refine ev_iload_n (pc' := 5) m_20 rfl rfl rfl (ev_bipush (pc' := 7) (x := 20) m_20 rfl rfl rfl ?_)
    refine ev_icmp_gt (t := 19) (e := 10) m_20 rfl rfl rfl (fun c2 => ?_) (fun c2 => ?_)
    · replace h := Ok_t c2 h
      refine ev_iconst (pc' := 20) (x := -1) m_20 rfl rfl rfl ?_
      exact tr_ri m_20 rfl rfl (Ok_s h)
    · replace h := Ok_f c2 h
      refine ev_aload_n (pc' := 11) m_20 rfl rfl rfl (tr_get (pc' := 14) (v := .int (gI _ 1 _)) m_20 rfl rfl ts_o5 rfl rfl rfl (ev_bipush (pc' := 16) (x := 20) m_20 rfl rfl rfl ?_))
      refine ev_icmp_ge (t := 21) (e := 19) m_20 rfl rfl rfl (fun c1 => ?_) (fun c1 => ?_)
      · replace h := Ok_t c1 h
        refine ev_aload_n (pc' := 22) m_20 rfl rfl rfl (ev_aload_n (pc' := 23) m_20 rfl rfl rfl (tr_get (pc' := 26) (v := .int (gI _ 1 _)) m_20 rfl rfl ts_o5 rfl rfl rfl (ev_bipush (pc' := 28) (x := 20) m_20 rfl rfl rfl (ev_isub (pc' := 29) m_20 rfl rfl (ev_iload_n (pc' := 30) m_20 rfl rfl rfl (ev_iadd (pc' := 31) m_20 rfl rfl (tr_pI (pc' := 34) (f := 1) m_20 rfl rfl rfl ts_o5 rfl rfl rfl rfl ?_)))))))
        refine ev_aload_n (pc' := 35) m_20 rfl rfl rfl (tr_get (pc' := 38) (v := .int (gI _ 1 _)) m_20 rfl rfl ts_o5 rfl rfl rfl ?_)
        exact tr_ri m_20 rfl rfl (Ok_s h)
      · replace h := Ok_f c1 h
        refine ev_iconst (pc' := 20) (x := -1) m_20 rfl rfl rfl ?_
        exact tr_ri m_20 rfl rfl (Ok_s h)
def cR_end (l1 : Int32) (s : ts) : Option (Int32 × ts) := (if l1 < ((0 : Int32)) then some ((-1 : Int32), s) else (if ((20 : Int32)) < l1 then some ((-1 : Int32), s) else (if ((20 : Int32)) ≤ (gI s 1101 0) then some (gI (wI s 1101 0 ((gI s 1101 0) + (l1 - ((20 : Int32))))) 1101 0, wI s 1101 0 ((gI s 1101 0) + (l1 - ((20 : Int32))))) else some ((-1 : Int32), s))))
set_option maxRecDepth 20000 in
theorem cR_end_ok {d : Nat} (l1 : Int32) (s : ts) (Q : Int32 × ts → Prop) (h : Ok (cR_end l1 s) Q) : am_Ev (d + 0) 174 (0, [(0, .ref 87), (1, .int (l1))], []) (lay s) (tq_i Q) := by
  unfold cR_end at h
  refine ev_iload_n (pc' := 1) m_174 rfl rfl rfl ?_
  refine ev_if_lt (t := 19) (e := 4) m_174 rfl rfl rfl (fun c3 => ?_) (fun c3 => ?_)
  · replace h := Ok_t c3 h
    refine ev_iconst (pc' := 20) (x := -1) m_174 rfl rfl rfl ?_
    exact tr_ri m_174 rfl rfl (Ok_s h)
  · replace h := Ok_f c3 h
    refine ev_iload_n (pc' := 5) m_174 rfl rfl rfl (ev_bipush (pc' := 7) (x := 20) m_174 rfl rfl rfl ?_)
    refine ev_icmp_gt (t := 19) (e := 10) m_174 rfl rfl rfl (fun c2 => ?_) (fun c2 => ?_)
    · replace h := Ok_t c2 h
      refine ev_iconst (pc' := 20) (x := -1) m_174 rfl rfl rfl ?_
      exact tr_ri m_174 rfl rfl (Ok_s h)
    · replace h := Ok_f c2 h
      refine ev_aload_n (pc' := 11) m_174 rfl rfl rfl (tr_get (pc' := 14) (v := .int (gI _ 1101 _)) m_174 rfl rfl ts_o87 rfl rfl rfl (ev_bipush (pc' := 16) (x := 20) m_174 rfl rfl rfl ?_))
      refine ev_icmp_ge (t := 21) (e := 19) m_174 rfl rfl rfl (fun c1 => ?_) (fun c1 => ?_)
      · replace h := Ok_t c1 h
        refine ev_aload_n (pc' := 22) m_174 rfl rfl rfl (ev_dup (pc' := 23) m_174 rfl rfl rfl (tr_get (pc' := 26) (v := .int (gI _ 1101 _)) m_174 rfl rfl ts_o87 rfl rfl rfl (ev_iload_n (pc' := 27) m_174 rfl rfl rfl (ev_bipush (pc' := 29) (x := 20) m_174 rfl rfl rfl (ev_isub (pc' := 30) m_174 rfl rfl (ev_iadd (pc' := 31) m_174 rfl rfl (tr_pI (pc' := 34) (f := 1101) m_174 rfl rfl rfl ts_o87 rfl rfl rfl rfl ?_)))))))
        refine ev_aload_n (pc' := 35) m_174 rfl rfl rfl (tr_get (pc' := 38) (v := .int (gI _ 1101 _)) m_174 rfl rfl ts_o87 rfl rfl rfl ?_)
        exact tr_ri m_174 rfl rfl (Ok_s h)
      · replace h := Ok_f c1 h
        refine ev_iconst (pc' := 20) (x := -1) m_174 rfl rfl rfl ?_
        exact tr_ri m_174 rfl rfl (Ok_s h)
def cT_byteAt (l1 : Int32) (l2 : Int32) (s : ts) : Option (Int32 × ts) := (if l2 < ((0 : Int32)) then some ((-2 : Int32), s) else (if l1 ≤ l2 then some ((-2 : Int32), s) else (if ((4000 : Int32)) ≤ l2 then some ((-2 : Int32), s) else (if am_idx l2 4000 = true then some ((gA s 6 l2.toNatClampNeg) &&& ((255 : Int32)), s) else none))))
set_option maxRecDepth 20000 in
theorem cT_byteAt_ok {d : Nat} (l1 : Int32) (l2 : Int32) (s : ts) (Q : Int32 × ts → Prop) (h : Ok (cT_byteAt l1 l2 s) Q) : am_Ev (d + 0) 24 (0, [(0, .ref 6), (1, .int (l1)), (2, .int (l2))], []) (lay s) (tq_i Q) := by
  unfold cT_byteAt at h
  refine ev_iload_n (pc' := 1) m_24 rfl rfl rfl ?_
  refine ev_if_lt (t := 25) (e := 4) m_24 rfl rfl rfl (fun c4 => ?_) (fun c4 => ?_)
  · replace h := Ok_t c4 h
    refine ev_bipush (pc' := 27) (x := -2) m_24 rfl rfl rfl ?_
    exact tr_ri m_24 rfl rfl (Ok_s h)
  · replace h := Ok_f c4 h
    refine ev_iload_n (pc' := 5) m_24 rfl rfl rfl (ev_iload_n (pc' := 6) m_24 rfl rfl rfl ?_)
    refine ev_icmp_ge (t := 25) (e := 9) m_24 rfl rfl rfl (fun c3 => ?_) (fun c3 => ?_)
    · replace h := Ok_t c3 h
      refine ev_bipush (pc' := 27) (x := -2) m_24 rfl rfl rfl ?_
      exact tr_ri m_24 rfl rfl (Ok_s h)
    · replace h := Ok_f c3 h
      refine ev_iload_n (pc' := 10) m_24 rfl rfl rfl (ev_aload_n (pc' := 11) m_24 rfl rfl rfl (tr_alen (pc' := 12) (x := 4000) m_24 rfl rfl rfl rfl rfl rfl ?_))
      refine ev_icmp_ge (t := 25) (e := 15) m_24 rfl rfl rfl (fun c2 => ?_) (fun c2 => ?_)
      · replace h := Ok_t c2 h
        refine ev_bipush (pc' := 27) (x := -2) m_24 rfl rfl rfl ?_
        exact tr_ri m_24 rfl rfl (Ok_s h)
      · replace h := Ok_f c2 h
        refine ev_aload_n (pc' := 16) m_24 rfl rfl rfl (ev_iload_n (pc' := 17) m_24 rfl rfl rfl ?_)
        obtain ⟨g1, h⟩ := Ok_g h
        refine tr_bald (pc' := 18) m_24 rfl rfl rfl g1 rfl (ev_sipush (pc' := 21) (x := 255) m_24 rfl rfl rfl (ev_iand (pc' := 22) m_24 rfl rfl (ev_goto (pc' := 27) m_24 rfl rfl ?_)))
        exact tr_ri m_24 rfl rfl (Ok_s h)
def cT_skipBlanks_2_b (kk : Int32 → Int32 → ts → Option (ts)) (l2 : Int32) (l3 : Int32) (s : ts) : Option (ts) := (if l2 ≤ (gI s 105 0) then some s else (cT_byteAt l2 (gI s 105 0) s).bind (fun x3 => (if l3 = ((0 : Int32)) then (if x3.1 = ((35 : Int32)) then kk l2 ((1 : Int32)) (wI x3.2 105 0 ((gI x3.2 105 0) + ((1 : Int32)))) else (if x3.1 = ((9 : Int32)) then kk l2 l3 (wI x3.2 105 0 ((gI x3.2 105 0) + ((1 : Int32)))) else (if x3.1 = ((10 : Int32)) then kk l2 l3 (wI x3.2 105 0 ((gI x3.2 105 0) + ((1 : Int32)))) else (if x3.1 = ((13 : Int32)) then kk l2 l3 (wI x3.2 105 0 ((gI x3.2 105 0) + ((1 : Int32)))) else (if x3.1 = ((32 : Int32)) then kk l2 l3 (wI x3.2 105 0 ((gI x3.2 105 0) + ((1 : Int32)))) else some x3.2))))) else (if x3.1 = ((10 : Int32)) then kk l2 ((0 : Int32)) (wI x3.2 105 0 ((gI x3.2 105 0) + ((1 : Int32)))) else kk l2 ((1 : Int32)) (wI x3.2 105 0 ((gI x3.2 105 0) + ((1 : Int32))))))))
def cT_skipBlanks_2 : Nat → Int32 → Int32 → ts → Option (ts)
  | 0, _, _, _ => none
  | n + 1, l2, l3, s => cT_skipBlanks_2_b (cT_skipBlanks_2 n) l2 l3 s
set_option maxRecDepth 20000 in
theorem cT_skipBlanks_2_ok {d : Nat} : ∀ (n : Nat) (l2 : Int32) (l3 : Int32) (s : ts) (Q : ts → Prop), Ok (cT_skipBlanks_2 n l2 l3 s) Q → am_Ev (d + 1) 23 (2, [(0, .ref 7), (1, .ref 6), (2, .int (l2)), (3, .int (l3))], []) (lay s) (tq_v Q) := by
  intro n
  induction n with
  | zero => intro l2 l3 s Q h; exact Ok_n h
  | succ n ih =>
    intro l2 l3 s Q h
    rw [cT_skipBlanks_2.eq_2] at h
    unfold cT_skipBlanks_2_b at h
    refine ev_aload_n (pc' := 3) m_23 rfl rfl rfl (tr_get (pc' := 6) (v := .int (gI _ 105 _)) m_23 rfl rfl ts_o7 rfl rfl rfl (ev_iload_n (pc' := 7) m_23 rfl rfl rfl ?_))
    refine ev_icmp_ge (t := 95) (e := 10) m_23 rfl rfl rfl (fun c11 => ?_) (fun c11 => ?_)
    · replace h := Ok_t c11 h
      exact tr_rv m_23 rfl rfl (Ok_s h)
    · replace h := Ok_f c11 h
      refine ev_aload_n (pc' := 11) m_23 rfl rfl rfl (ev_iload_n (pc' := 12) m_23 rfl rfl rfl (ev_aload_n (pc' := 13) m_23 rfl rfl rfl (tr_get (pc' := 16) (v := .int (gI _ 105 _)) m_23 rfl rfl ts_o7 rfl rfl rfl ?_)))
      refine tr_ci (pc' := 19) m_23 rfl rfl rfl m_24 rfl rfl rfl rfl rfl rfl rfl (cT_byteAt_ok l2 (gI s 105 0) _ _ (Ok_b h)) (fun x3_ x3_s h => ?_)
      refine ev_istore (pc' := 21) m_23 rfl rfl rfl rfl (ev_iload_n (pc' := 22) m_23 rfl rfl rfl ?_)
      refine ev_if_eq (t := 41) (e := 25) m_23 rfl rfl rfl (fun c10 => ?_) (fun c10 => ?_)
      · replace h := Ok_t c10 h
        refine ev_iload (pc' := 43) m_23 rfl rfl rfl (ev_bipush (pc' := 45) (x := 35) m_23 rfl rfl rfl ?_)
        refine ev_icmp_ne (t := 53) (e := 48) m_23 rfl rfl rfl (fun c8 => ?_) (fun c8 => ?_)
        · replace h := Ok_f c8 h
          refine ev_iload (pc' := 55) m_23 rfl rfl rfl (ev_bipush (pc' := 57) (x := 9) m_23 rfl rfl rfl ?_)
          refine ev_icmp_eq (t := 82) (e := 60) m_23 rfl rfl rfl (fun c7 => ?_) (fun c7 => ?_)
          · replace h := Ok_t c7 h
            refine ev_aload_n (pc' := 83) m_23 rfl rfl rfl (ev_dup (pc' := 84) m_23 rfl rfl rfl (tr_get (pc' := 87) (v := .int (gI _ 105 _)) m_23 rfl rfl ts_o7 rfl rfl rfl (ev_iconst (pc' := 88) (x := 1) m_23 rfl rfl rfl (ev_iadd (pc' := 89) m_23 rfl rfl (tr_pI (pc' := 92) (f := 105) m_23 rfl rfl rfl ts_o7 rfl rfl rfl rfl (ev_goto (pc' := 2) m_23 rfl rfl ?_))))))
            exact am_Ev.sub (L := [(0, .ref 7), (1, .ref 6), (2, .int (l2)), (3, .int (l3))]) ⟨rfl, rfl, rfl, rfl, trivial⟩ (ih l2 l3 _ _ h)
          · replace h := Ok_f c7 h
            refine ev_iload (pc' := 62) m_23 rfl rfl rfl (ev_bipush (pc' := 64) (x := 10) m_23 rfl rfl rfl ?_)
            refine ev_icmp_eq (t := 82) (e := 67) m_23 rfl rfl rfl (fun c6 => ?_) (fun c6 => ?_)
            · replace h := Ok_t c6 h
              refine ev_aload_n (pc' := 83) m_23 rfl rfl rfl (ev_dup (pc' := 84) m_23 rfl rfl rfl (tr_get (pc' := 87) (v := .int (gI _ 105 _)) m_23 rfl rfl ts_o7 rfl rfl rfl (ev_iconst (pc' := 88) (x := 1) m_23 rfl rfl rfl (ev_iadd (pc' := 89) m_23 rfl rfl (tr_pI (pc' := 92) (f := 105) m_23 rfl rfl rfl ts_o7 rfl rfl rfl rfl (ev_goto (pc' := 2) m_23 rfl rfl ?_))))))
              exact am_Ev.sub (L := [(0, .ref 7), (1, .ref 6), (2, .int (l2)), (3, .int (l3))]) ⟨rfl, rfl, rfl, rfl, trivial⟩ (ih l2 l3 _ _ h)
            · replace h := Ok_f c6 h
              refine ev_iload (pc' := 69) m_23 rfl rfl rfl (ev_bipush (pc' := 71) (x := 13) m_23 rfl rfl rfl ?_)
              refine ev_icmp_eq (t := 82) (e := 74) m_23 rfl rfl rfl (fun c5 => ?_) (fun c5 => ?_)
              · replace h := Ok_t c5 h
                refine ev_aload_n (pc' := 83) m_23 rfl rfl rfl (ev_dup (pc' := 84) m_23 rfl rfl rfl (tr_get (pc' := 87) (v := .int (gI _ 105 _)) m_23 rfl rfl ts_o7 rfl rfl rfl (ev_iconst (pc' := 88) (x := 1) m_23 rfl rfl rfl (ev_iadd (pc' := 89) m_23 rfl rfl (tr_pI (pc' := 92) (f := 105) m_23 rfl rfl rfl ts_o7 rfl rfl rfl rfl (ev_goto (pc' := 2) m_23 rfl rfl ?_))))))
                exact am_Ev.sub (L := [(0, .ref 7), (1, .ref 6), (2, .int (l2)), (3, .int (l3))]) ⟨rfl, rfl, rfl, rfl, trivial⟩ (ih l2 l3 _ _ h)
              · replace h := Ok_f c5 h
                refine ev_iload (pc' := 76) m_23 rfl rfl rfl (ev_bipush (pc' := 78) (x := 32) m_23 rfl rfl rfl ?_)
                refine ev_icmp_eq (t := 82) (e := 81) m_23 rfl rfl rfl (fun c4 => ?_) (fun c4 => ?_)
                · replace h := Ok_t c4 h
                  refine ev_aload_n (pc' := 83) m_23 rfl rfl rfl (ev_dup (pc' := 84) m_23 rfl rfl rfl (tr_get (pc' := 87) (v := .int (gI _ 105 _)) m_23 rfl rfl ts_o7 rfl rfl rfl (ev_iconst (pc' := 88) (x := 1) m_23 rfl rfl rfl (ev_iadd (pc' := 89) m_23 rfl rfl (tr_pI (pc' := 92) (f := 105) m_23 rfl rfl rfl ts_o7 rfl rfl rfl rfl (ev_goto (pc' := 2) m_23 rfl rfl ?_))))))
                  exact am_Ev.sub (L := [(0, .ref 7), (1, .ref 6), (2, .int (l2)), (3, .int (l3))]) ⟨rfl, rfl, rfl, rfl, trivial⟩ (ih l2 l3 _ _ h)
                · replace h := Ok_f c4 h
                  exact tr_rv m_23 rfl rfl (Ok_s h)
        · replace h := Ok_t c8 h
          refine ev_iconst (pc' := 49) (x := 1) m_23 rfl rfl rfl (ev_istore_n (pc' := 50) m_23 rfl rfl rfl rfl (ev_goto (pc' := 82) m_23 rfl rfl (ev_aload_n (pc' := 83) m_23 rfl rfl rfl (ev_dup (pc' := 84) m_23 rfl rfl rfl (tr_get (pc' := 87) (v := .int (gI _ 105 _)) m_23 rfl rfl ts_o7 rfl rfl rfl (ev_iconst (pc' := 88) (x := 1) m_23 rfl rfl rfl (ev_iadd (pc' := 89) m_23 rfl rfl ?_)))))))
          refine tr_pI (pc' := 92) (f := 105) m_23 rfl rfl rfl ts_o7 rfl rfl rfl rfl (ev_goto (pc' := 2) m_23 rfl rfl ?_)
          exact am_Ev.sub (L := [(0, .ref 7), (1, .ref 6), (2, .int (l2)), (3, .int ((1 : Int32)))]) ⟨rfl, rfl, rfl, rfl, trivial⟩ (ih l2 ((1 : Int32)) _ _ h)
      · replace h := Ok_f c10 h
        refine ev_iload (pc' := 27) m_23 rfl rfl rfl (ev_bipush (pc' := 29) (x := 10) m_23 rfl rfl rfl ?_)
        refine ev_icmp_eq (t := 36) (e := 32) m_23 rfl rfl rfl (fun c9 => ?_) (fun c9 => ?_)
        · replace h := Ok_t c9 h
          refine ev_iconst (pc' := 37) (x := 0) m_23 rfl rfl rfl (ev_istore_n (pc' := 38) m_23 rfl rfl rfl rfl (ev_goto (pc' := 82) m_23 rfl rfl (ev_aload_n (pc' := 83) m_23 rfl rfl rfl (ev_dup (pc' := 84) m_23 rfl rfl rfl (tr_get (pc' := 87) (v := .int (gI _ 105 _)) m_23 rfl rfl ts_o7 rfl rfl rfl (ev_iconst (pc' := 88) (x := 1) m_23 rfl rfl rfl (ev_iadd (pc' := 89) m_23 rfl rfl ?_)))))))
          refine tr_pI (pc' := 92) (f := 105) m_23 rfl rfl rfl ts_o7 rfl rfl rfl rfl (ev_goto (pc' := 2) m_23 rfl rfl ?_)
          exact am_Ev.sub (L := [(0, .ref 7), (1, .ref 6), (2, .int (l2)), (3, .int ((0 : Int32)))]) ⟨rfl, rfl, rfl, rfl, trivial⟩ (ih l2 ((0 : Int32)) _ _ h)
        · replace h := Ok_f c9 h
          refine ev_iconst (pc' := 33) (x := 1) m_23 rfl rfl rfl (ev_goto (pc' := 37) m_23 rfl rfl (ev_istore_n (pc' := 38) m_23 rfl rfl rfl rfl (ev_goto (pc' := 82) m_23 rfl rfl (ev_aload_n (pc' := 83) m_23 rfl rfl rfl (ev_dup (pc' := 84) m_23 rfl rfl rfl (tr_get (pc' := 87) (v := .int (gI _ 105 _)) m_23 rfl rfl ts_o7 rfl rfl rfl (ev_iconst (pc' := 88) (x := 1) m_23 rfl rfl rfl ?_)))))))
          refine ev_iadd (pc' := 89) m_23 rfl rfl (tr_pI (pc' := 92) (f := 105) m_23 rfl rfl rfl ts_o7 rfl rfl rfl rfl (ev_goto (pc' := 2) m_23 rfl rfl ?_))
          exact am_Ev.sub (L := [(0, .ref 7), (1, .ref 6), (2, .int (l2)), (3, .int ((1 : Int32)))]) ⟨rfl, rfl, rfl, rfl, trivial⟩ (ih l2 ((1 : Int32)) _ _ h)
def cT_skipBlanks (l2 : Int32) (s : ts) : Option (ts) := cT_skipBlanks_2 tm_N l2 ((0 : Int32)) s
set_option maxRecDepth 20000 in
theorem cT_skipBlanks_ok {d : Nat} (l2 : Int32) (s : ts) (Q : ts → Prop) (h : Ok (cT_skipBlanks l2 s) Q) : am_Ev (d + 1) 23 (0, [(0, .ref 7), (1, .ref 6), (2, .int (l2))], []) (lay s) (tq_v Q) := by
  unfold cT_skipBlanks at h
  refine ev_iconst (pc' := 1) (x := 0) m_23 rfl rfl rfl (ev_istore_n (pc' := 2) m_23 rfl rfl rfl rfl ?_)
  exact am_Ev.sub (L := [(0, .ref 7), (1, .ref 6), (2, .int (l2)), (3, .int ((0 : Int32)))]) ⟨rfl, rfl, rfl, rfl, trivial⟩ (cT_skipBlanks_2_ok tm_N l2 ((0 : Int32)) _ _ h)
def cT_add (l1 : Int32) (l2 : Int32) (l3 : Int64) (s : ts) : Option (Int32 × ts) := (if (gI s 104 0) < ((4001 : Int32)) then (if am_idx (gI s 104 0) 4001 = true then (if am_idx (gI (wA s 9 (gI s 104 0).toNatClampNeg l1) 104 0) 4001 = true then (if am_idx (gI (wA (wA s 9 (gI s 104 0).toNatClampNeg l1) 10 (gI (wA s 9 (gI s 104 0).toNatClampNeg l1) 104 0).toNatClampNeg l2) 104 0) 4001 = true then (if l1 = ((0 : Int32)) then some ((0 : Int32), wI (wB (wA (wA s 9 (gI s 104 0).toNatClampNeg l1) 10 (gI (wA s 9 (gI s 104 0).toNatClampNeg l1) 104 0).toNatClampNeg l2) 11 (gI (wA (wA s 9 (gI s 104 0).toNatClampNeg l1) 10 (gI (wA s 9 (gI s 104 0).toNatClampNeg l1) 104 0).toNatClampNeg l2) 104 0).toNatClampNeg l3) 104 0 ((gI (wB (wA (wA s 9 (gI s 104 0).toNatClampNeg l1) 10 (gI (wA s 9 (gI s 104 0).toNatClampNeg l1) 104 0).toNatClampNeg l2) 11 (gI (wA (wA s 9 (gI s 104 0).toNatClampNeg l1) 10 (gI (wA s 9 (gI s 104 0).toNatClampNeg l1) 104 0).toNatClampNeg l2) 104 0).toNatClampNeg l3) 104 0) + ((1 : Int32)))) else (if l1 = ((1 : Int32)) then some ((0 : Int32), wI (wB (wA (wA s 9 (gI s 104 0).toNatClampNeg l1) 10 (gI (wA s 9 (gI s 104 0).toNatClampNeg l1) 104 0).toNatClampNeg l2) 11 (gI (wA (wA s 9 (gI s 104 0).toNatClampNeg l1) 10 (gI (wA s 9 (gI s 104 0).toNatClampNeg l1) 104 0).toNatClampNeg l2) 104 0).toNatClampNeg l3) 104 0 ((gI (wB (wA (wA s 9 (gI s 104 0).toNatClampNeg l1) 10 (gI (wA s 9 (gI s 104 0).toNatClampNeg l1) 104 0).toNatClampNeg l2) 11 (gI (wA (wA s 9 (gI s 104 0).toNatClampNeg l1) 10 (gI (wA s 9 (gI s 104 0).toNatClampNeg l1) 104 0).toNatClampNeg l2) 104 0).toNatClampNeg l3) 104 0) + ((1 : Int32)))) else some ((1 : Int32), wI (wB (wA (wA s 9 (gI s 104 0).toNatClampNeg l1) 10 (gI (wA s 9 (gI s 104 0).toNatClampNeg l1) 104 0).toNatClampNeg l2) 11 (gI (wA (wA s 9 (gI s 104 0).toNatClampNeg l1) 10 (gI (wA s 9 (gI s 104 0).toNatClampNeg l1) 104 0).toNatClampNeg l2) 104 0).toNatClampNeg l3) 104 0 ((gI (wB (wA (wA s 9 (gI s 104 0).toNatClampNeg l1) 10 (gI (wA s 9 (gI s 104 0).toNatClampNeg l1) 104 0).toNatClampNeg l2) 11 (gI (wA (wA s 9 (gI s 104 0).toNatClampNeg l1) 10 (gI (wA s 9 (gI s 104 0).toNatClampNeg l1) 104 0).toNatClampNeg l2) 104 0).toNatClampNeg l3) 104 0) + ((1 : Int32)))))) else none) else none) else none) else some ((0 : Int32), s))
set_option maxRecDepth 20000 in
theorem cT_add_ok {d : Nat} (l1 : Int32) (l2 : Int32) (l3 : Int64) (s : ts) (Q : Int32 × ts → Prop) (h : Ok (cT_add l1 l2 l3 s) Q) : am_Ev (d + 0) 26 (0, [(0, .ref 7), (1, .int (l1)), (2, .int (l2)), (3, .long (l3))], []) (lay s) (tq_i Q) := by
  unfold cT_add at h
  refine ev_aload_n (pc' := 1) m_26 rfl rfl rfl (tr_get (pc' := 4) (v := .int (gI _ 104 _)) m_26 rfl rfl ts_o7 rfl rfl rfl (ev_sipush (pc' := 7) (x := 4001) m_26 rfl rfl rfl ?_))
  refine ev_icmp_lt (t := 12) (e := 10) m_26 rfl rfl rfl (fun c6 => ?_) (fun c6 => ?_)
  · replace h := Ok_t c6 h
    refine ev_aload_n (pc' := 13) m_26 rfl rfl rfl (tr_get (pc' := 16) (v := .ref 9) m_26 rfl rfl ts_o7 rfl rfl rfl (ev_aload_n (pc' := 17) m_26 rfl rfl rfl (tr_get (pc' := 20) (v := .int (gI _ 104 _)) m_26 rfl rfl ts_o7 rfl rfl rfl (ev_iload_n (pc' := 21) m_26 rfl rfl rfl ?_))))
    obtain ⟨g1, h⟩ := Ok_g h
    refine tr_iast (pc' := 22) m_26 rfl rfl rfl g1 rfl (ev_aload_n (pc' := 23) m_26 rfl rfl rfl (tr_get (pc' := 26) (v := .ref 10) m_26 rfl rfl ts_o7 rfl rfl rfl (ev_aload_n (pc' := 27) m_26 rfl rfl rfl (tr_get (pc' := 30) (v := .int (gI _ 104 _)) m_26 rfl rfl ts_o7 rfl rfl rfl (ev_iload_n (pc' := 31) m_26 rfl rfl rfl ?_)))))
    obtain ⟨g2, h⟩ := Ok_g h
    refine tr_iast (pc' := 32) m_26 rfl rfl rfl g2 rfl (ev_aload_n (pc' := 33) m_26 rfl rfl rfl (tr_get (pc' := 36) (v := .ref 11) m_26 rfl rfl ts_o7 rfl rfl rfl (ev_aload_n (pc' := 37) m_26 rfl rfl rfl (tr_get (pc' := 40) (v := .int (gI _ 104 _)) m_26 rfl rfl ts_o7 rfl rfl rfl (ev_lload_n (pc' := 41) m_26 rfl rfl rfl ?_)))))
    obtain ⟨g3, h⟩ := Ok_g h
    refine tr_last (pc' := 42) m_26 rfl rfl rfl g3 rfl (ev_aload_n (pc' := 43) m_26 rfl rfl rfl (ev_dup (pc' := 44) m_26 rfl rfl rfl (tr_get (pc' := 47) (v := .int (gI _ 104 _)) m_26 rfl rfl ts_o7 rfl rfl rfl (ev_iconst (pc' := 48) (x := 1) m_26 rfl rfl rfl (ev_iadd (pc' := 49) m_26 rfl rfl (tr_pI (pc' := 52) (f := 104) m_26 rfl rfl rfl ts_o7 rfl rfl rfl rfl (ev_iload_n (pc' := 53) m_26 rfl rfl rfl ?_)))))))
    refine ev_if_eq (t := 65) (e := 56) m_26 rfl rfl rfl (fun c5 => ?_) (fun c5 => ?_)
    · replace h := Ok_t c5 h
      refine ev_iconst (pc' := 66) (x := 0) m_26 rfl rfl rfl ?_
      exact tr_rz m_26 rfl rfl (Or.inl rfl) (Ok_s h)
    · replace h := Ok_f c5 h
      refine ev_iload_n (pc' := 57) m_26 rfl rfl rfl (ev_iconst (pc' := 58) (x := 1) m_26 rfl rfl rfl ?_)
      refine ev_icmp_eq (t := 65) (e := 61) m_26 rfl rfl rfl (fun c4 => ?_) (fun c4 => ?_)
      · replace h := Ok_t c4 h
        refine ev_iconst (pc' := 66) (x := 0) m_26 rfl rfl rfl ?_
        exact tr_rz m_26 rfl rfl (Or.inl rfl) (Ok_s h)
      · replace h := Ok_f c4 h
        refine ev_iconst (pc' := 62) (x := 1) m_26 rfl rfl rfl (ev_goto (pc' := 66) m_26 rfl rfl ?_)
        exact tr_rz m_26 rfl rfl (Or.inr rfl) (Ok_s h)
  · replace h := Ok_f c6 h
    refine ev_iconst (pc' := 11) (x := 0) m_26 rfl rfl rfl ?_
    exact tr_rz m_26 rfl rfl (Or.inl rfl) (Ok_s h)
def cT_isLetter_12 (l0 : Int32) (s : ts) : Option (Int32 × ts) := (if l0 < ((65 : Int32)) then some ((0 : Int32), s) else (if ((90 : Int32)) < l0 then some ((0 : Int32), s) else some ((1 : Int32), s)))
set_option maxRecDepth 20000 in
theorem cT_isLetter_12_ok {d : Nat} (l0 : Int32) (s : ts) (Q : Int32 × ts → Prop) (h : Ok (cT_isLetter_12 l0 s) Q) : am_Ev (d + 0) 27 (12, [(0, .int (l0))], []) (lay s) (tq_i Q) := by
  unfold cT_isLetter_12 at h
  refine ev_iload_n (pc' := 13) m_27 rfl rfl rfl (ev_bipush (pc' := 15) (x := 65) m_27 rfl rfl rfl ?_)
  refine ev_icmp_lt (t := 28) (e := 18) m_27 rfl rfl rfl (fun c2 => ?_) (fun c2 => ?_)
  · replace h := Ok_t c2 h
    refine ev_iconst (pc' := 29) (x := 0) m_27 rfl rfl rfl ?_
    exact tr_rz m_27 rfl rfl (Or.inl rfl) (Ok_s h)
  · replace h := Ok_f c2 h
    refine ev_iload_n (pc' := 19) m_27 rfl rfl rfl (ev_bipush (pc' := 21) (x := 90) m_27 rfl rfl rfl ?_)
    refine ev_icmp_gt (t := 28) (e := 24) m_27 rfl rfl rfl (fun c1 => ?_) (fun c1 => ?_)
    · replace h := Ok_t c1 h
      refine ev_iconst (pc' := 29) (x := 0) m_27 rfl rfl rfl ?_
      exact tr_rz m_27 rfl rfl (Or.inl rfl) (Ok_s h)
    · replace h := Ok_f c1 h
      refine ev_iconst (pc' := 25) (x := 1) m_27 rfl rfl rfl (ev_goto (pc' := 29) m_27 rfl rfl ?_)
      exact tr_rz m_27 rfl rfl (Or.inr rfl) (Ok_s h)
def cT_isLetter (l0 : Int32) (s : ts) : Option (Int32 × ts) := (if l0 < ((97 : Int32)) then cT_isLetter_12 l0 s else (if l0 ≤ ((122 : Int32)) then some ((1 : Int32), s) else cT_isLetter_12 l0 s))
set_option maxRecDepth 20000 in
theorem cT_isLetter_ok {d : Nat} (l0 : Int32) (s : ts) (Q : Int32 × ts → Prop) (h : Ok (cT_isLetter l0 s) Q) : am_Ev (d + 0) 27 (0, [(0, .int (l0))], []) (lay s) (tq_i Q) := by
  unfold cT_isLetter at h
  refine ev_iload_n (pc' := 1) m_27 rfl rfl rfl (ev_bipush (pc' := 3) (x := 97) m_27 rfl rfl rfl ?_)
  refine ev_icmp_lt (t := 12) (e := 6) m_27 rfl rfl rfl (fun c2 => ?_) (fun c2 => ?_)
  · replace h := Ok_t c2 h
    exact am_Ev.sub (L := [(0, .int (l0))]) ⟨rfl, trivial⟩ (cT_isLetter_12_ok l0 _ _ h)
  · replace h := Ok_f c2 h
    refine ev_iload_n (pc' := 7) m_27 rfl rfl rfl (ev_bipush (pc' := 9) (x := 122) m_27 rfl rfl rfl ?_)
    refine ev_icmp_le (t := 24) (e := 12) m_27 rfl rfl rfl (fun c1 => ?_) (fun c1 => ?_)
    · replace h := Ok_t c1 h
      refine ev_iconst (pc' := 25) (x := 1) m_27 rfl rfl rfl (ev_goto (pc' := 29) m_27 rfl rfl ?_)
      exact tr_rz m_27 rfl rfl (Or.inr rfl) (Ok_s h)
    · replace h := Ok_f c1 h
      exact am_Ev.sub (L := [(0, .int (l0))]) ⟨rfl, trivial⟩ (cT_isLetter_12_ok l0 _ _ h)
def cT_isDigit (l0 : Int32) (s : ts) : Option (Int32 × ts) := (if l0 < ((48 : Int32)) then some ((0 : Int32), s) else (if ((57 : Int32)) < l0 then some ((0 : Int32), s) else some ((1 : Int32), s)))
set_option maxRecDepth 20000 in
theorem cT_isDigit_ok {d : Nat} (l0 : Int32) (s : ts) (Q : Int32 × ts → Prop) (h : Ok (cT_isDigit l0 s) Q) : am_Ev (d + 0) 29 (0, [(0, .int (l0))], []) (lay s) (tq_i Q) := by
  unfold cT_isDigit at h
  refine ev_iload_n (pc' := 1) m_29 rfl rfl rfl (ev_bipush (pc' := 3) (x := 48) m_29 rfl rfl rfl ?_)
  refine ev_icmp_lt (t := 16) (e := 6) m_29 rfl rfl rfl (fun c2 => ?_) (fun c2 => ?_)
  · replace h := Ok_t c2 h
    refine ev_iconst (pc' := 17) (x := 0) m_29 rfl rfl rfl ?_
    exact tr_rz m_29 rfl rfl (Or.inl rfl) (Ok_s h)
  · replace h := Ok_f c2 h
    refine ev_iload_n (pc' := 7) m_29 rfl rfl rfl (ev_bipush (pc' := 9) (x := 57) m_29 rfl rfl rfl ?_)
    refine ev_icmp_gt (t := 16) (e := 12) m_29 rfl rfl rfl (fun c1 => ?_) (fun c1 => ?_)
    · replace h := Ok_t c1 h
      refine ev_iconst (pc' := 17) (x := 0) m_29 rfl rfl rfl ?_
      exact tr_rz m_29 rfl rfl (Or.inl rfl) (Ok_s h)
    · replace h := Ok_f c1 h
      refine ev_iconst (pc' := 13) (x := 1) m_29 rfl rfl rfl (ev_goto (pc' := 17) m_29 rfl rfl ?_)
      exact tr_rz m_29 rfl rfl (Or.inr rfl) (Ok_s h)
def cT_takeWord_100_b (kk : Int32 → Int64 → Int32 → ts → Option (Int32 × ts)) (l3 : Int32) (l4 : Int64) (l7 : Int32) (s : ts) : Option (Int32 × ts) := (if ((24 : Int32)) ≤ l7 then (cT_add ((2 : Int32)) l3 l4 s).bind (fun x3 => some (x3.1, x3.2)) else (if am_idx l7 24 = true then (if (lg_cmp (gB s 8 l7.toNatClampNeg) l4) = ((0 : Int32)) then (cT_add (((512 : Int32)) + l7) l3 l4 s).bind (fun x7 => some (x7.1, x7.2)) else kk l3 l4 (l7 + (1 : Int32)) s) else none))
def cT_takeWord_100 : Nat → Int32 → Int64 → Int32 → ts → Option (Int32 × ts)
  | 0, _, _, _, _ => none
  | n + 1, l3, l4, l7, s => cT_takeWord_100_b (cT_takeWord_100 n) l3 l4 l7 s
set_option maxRecDepth 20000 in
theorem cT_takeWord_100_ok {d : Nat} : ∀ (n : Nat) (l3 : Int32) (l4 : Int64) (l7 : Int32) (s : ts) (Q : Int32 × ts → Prop), Ok (cT_takeWord_100 n l3 l4 l7 s) Q → am_Ev (d + 1) 28 (100, [(0, .ref 7), (3, .int (l3)), (4, .long (l4)), (7, .int (l7))], []) (lay s) (tq_i Q) := by
  intro n
  induction n with
  | zero => intro l3 l4 l7 s Q h; exact Ok_n h
  | succ n ih =>
    intro l3 l4 l7 s Q h
    rw [cT_takeWord_100.eq_2] at h
    unfold cT_takeWord_100_b at h
    refine ev_iload (pc' := 102) m_28 rfl rfl rfl (ev_bipush (pc' := 104) (x := 24) m_28 rfl rfl rfl ?_)
    refine ev_icmp_ge (t := 140) (e := 107) m_28 rfl rfl rfl (fun c9 => ?_) (fun c9 => ?_)
    · replace h := Ok_t c9 h
      refine ev_aload_n (pc' := 141) m_28 rfl rfl rfl (ev_iconst (pc' := 142) (x := 2) m_28 rfl rfl rfl (ev_iload_n (pc' := 143) m_28 rfl rfl rfl (ev_lload (pc' := 145) m_28 rfl rfl rfl ?_)))
      refine tr_cz (pc' := 148) m_28 rfl rfl rfl m_26 rfl rfl rfl rfl rfl (tr_rcv ts_o7 rfl) rfl rfl (cT_add_ok ((2 : Int32)) l3 l4 _ _ (Ok_b h)) (fun x3_ x3_s h1 h => ?_)
      exact tr_rz m_28 rfl rfl h1 (Ok_s h)
    · replace h := Ok_f c9 h
      refine ev_aload_n (pc' := 108) m_28 rfl rfl rfl (tr_get (pc' := 111) (v := .ref 8) m_28 rfl rfl ts_o7 rfl rfl rfl (ev_iload (pc' := 113) m_28 rfl rfl rfl ?_))
      obtain ⟨g4, h⟩ := Ok_g h
      refine tr_lald (pc' := 114) m_28 rfl rfl rfl g4 rfl (ev_lload (pc' := 116) m_28 rfl rfl rfl (ev_lcmp (pc' := 117) m_28 rfl rfl ?_))
      refine ev_if_ne (t := 134) (e := 120) m_28 rfl rfl rfl (fun c8 => ?_) (fun c8 => ?_)
      · replace h := Ok_f c8 h
        refine ev_iinc (pc' := 137) (z := 1) m_28 rfl rfl rfl rfl rfl rfl (ev_goto (pc' := 100) m_28 rfl rfl ?_)
        exact am_Ev.sub (L := [(0, .ref 7), (3, .int (l3)), (4, .long (l4)), (7, .int (l7 + (1 : Int32)))]) ⟨rfl, rfl, rfl, rfl, trivial⟩ (ih l3 l4 (l7 + (1 : Int32)) _ _ h)
      · replace h := Ok_t c8 h
        refine ev_aload_n (pc' := 121) m_28 rfl rfl rfl (ev_sipush (pc' := 124) (x := 512) m_28 rfl rfl rfl (ev_iload (pc' := 126) m_28 rfl rfl rfl (ev_iadd (pc' := 127) m_28 rfl rfl (ev_iload_n (pc' := 128) m_28 rfl rfl rfl (ev_lload (pc' := 130) m_28 rfl rfl rfl ?_)))))
        refine tr_cz (pc' := 133) m_28 rfl rfl rfl m_26 rfl rfl rfl rfl rfl (tr_rcv ts_o7 rfl) rfl rfl (cT_add_ok (((512 : Int32)) + l7) l3 l4 _ _ (Ok_b h)) (fun x7_ x7_s h5 h => ?_)
        exact tr_rz m_28 rfl rfl h5 (Ok_s h)
def cT_takeWord_78 (l3 : Int32) (l4 : Int64) (s : ts) : Option (Int32 × ts) := (if ((gI s 105 0) - l3) ≤ ((8 : Int32)) then cT_takeWord_100 tm_N l3 l4 ((0 : Int32)) s else (cT_add ((1 : Int32)) l3 ((0 : Int64)) s).bind (fun x3 => some (x3.1, x3.2)))
set_option maxRecDepth 20000 in
theorem cT_takeWord_78_ok {d : Nat} (l3 : Int32) (l4 : Int64) (s : ts) (Q : Int32 × ts → Prop) (h : Ok (cT_takeWord_78 l3 l4 s) Q) : am_Ev (d + 1) 28 (78, [(0, .ref 7), (3, .int (l3)), (4, .long (l4))], []) (lay s) (tq_i Q) := by
  unfold cT_takeWord_78 at h
  refine ev_aload_n (pc' := 79) m_28 rfl rfl rfl (tr_get (pc' := 82) (v := .int (gI _ 105 _)) m_28 rfl rfl ts_o7 rfl rfl rfl (ev_iload_n (pc' := 83) m_28 rfl rfl rfl (ev_isub (pc' := 84) m_28 rfl rfl (ev_bipush (pc' := 86) (x := 8) m_28 rfl rfl rfl ?_))))
  refine ev_icmp_le (t := 97) (e := 89) m_28 rfl rfl rfl (fun c4 => ?_) (fun c4 => ?_)
  · replace h := Ok_t c4 h
    refine ev_iconst (pc' := 98) (x := 0) m_28 rfl rfl rfl (ev_istore (pc' := 100) m_28 rfl rfl rfl rfl ?_)
    exact am_Ev.sub (L := [(0, .ref 7), (3, .int (l3)), (4, .long (l4)), (7, .int ((0 : Int32)))]) ⟨rfl, rfl, rfl, rfl, trivial⟩ (cT_takeWord_100_ok tm_N l3 l4 ((0 : Int32)) _ _ h)
  · replace h := Ok_f c4 h
    refine ev_aload_n (pc' := 90) m_28 rfl rfl rfl (ev_iconst (pc' := 91) (x := 1) m_28 rfl rfl rfl (ev_iload_n (pc' := 92) m_28 rfl rfl rfl (ev_lconst (pc' := 93) (u := 0) m_28 rfl rfl rfl ?_)))
    refine tr_cz (pc' := 96) m_28 rfl rfl rfl m_26 rfl rfl rfl rfl rfl (tr_rcv ts_o7 rfl) rfl rfl (cT_add_ok ((1 : Int32)) l3 ((0 : Int64)) _ _ (Ok_b h)) (fun x3_ x3_s h1 h => ?_)
    exact tr_rz m_28 rfl rfl h1 (Ok_s h)
def cT_takeWord_43 (k19 : Int32 → Int32 → Int64 → Int32 → ts → Option (Int32 × ts)) (l2 : Int32) (l3 : Int32) (l4 : Int64) (l6 : Int32) (s : ts) : Option (Int32 × ts) := (cT_byteAt l2 (gI (wI s 105 0 ((gI s 105 0) + ((1 : Int32)))) 105 0) (wI s 105 0 ((gI s 105 0) + ((1 : Int32))))).bind (fun x3 => k19 l2 l3 ((l4 <<< (((8 : Int32)).toInt64 &&& 63)) ||| l6.toInt64) x3.1 x3.2)
set_option maxRecDepth 20000 in
theorem cT_takeWord_43_ok {d : Nat} (k19 : Int32 → Int32 → Int64 → Int32 → ts → Option (Int32 × ts)) (hk19 : ∀ (l2 : Int32) (l3 : Int32) (l4 : Int64) (l6 : Int32) (s : ts) (Q : Int32 × ts → Prop), Ok (k19 l2 l3 l4 l6 s) Q → am_Ev (d + 1) 28 (19, [(0, .ref 7), (1, .ref 6), (2, .int (l2)), (3, .int (l3)), (4, .long (l4)), (6, .int (l6))], []) (lay s) (tq_i Q)) (l2 : Int32) (l3 : Int32) (l4 : Int64) (l6 : Int32) (s : ts) (Q : Int32 × ts → Prop) (h : Ok (cT_takeWord_43 k19 l2 l3 l4 l6 s) Q) : am_Ev (d + 1) 28 (43, [(0, .ref 7), (1, .ref 6), (2, .int (l2)), (3, .int (l3)), (4, .long (l4)), (6, .int (l6))], []) (lay s) (tq_i Q) := by
  unfold cT_takeWord_43 at h
  refine ev_lload (pc' := 45) m_28 rfl rfl rfl (ev_bipush (pc' := 47) (x := 8) m_28 rfl rfl rfl (ev_lshl (pc' := 48) m_28 rfl rfl (ev_iload (pc' := 50) m_28 rfl rfl rfl (ev_i2l (pc' := 51) m_28 rfl rfl (ev_lor (pc' := 52) m_28 rfl rfl (ev_lstore (pc' := 54) m_28 rfl rfl rfl rfl (ev_aload_n (pc' := 55) m_28 rfl rfl rfl ?_)))))))
  refine ev_dup (pc' := 56) m_28 rfl rfl rfl (tr_get (pc' := 59) (v := .int (gI _ 105 _)) m_28 rfl rfl ts_o7 rfl rfl rfl (ev_iconst (pc' := 60) (x := 1) m_28 rfl rfl rfl (ev_iadd (pc' := 61) m_28 rfl rfl (tr_pI (pc' := 64) (f := 105) m_28 rfl rfl rfl ts_o7 rfl rfl rfl rfl (ev_aload_n (pc' := 65) m_28 rfl rfl rfl (ev_iload_n (pc' := 66) m_28 rfl rfl rfl (ev_aload_n (pc' := 67) m_28 rfl rfl rfl ?_)))))))
  refine tr_get (pc' := 70) (v := .int (gI _ 105 _)) m_28 rfl rfl ts_o7 rfl rfl rfl ?_
  refine tr_ci (pc' := 73) m_28 rfl rfl rfl m_24 rfl rfl rfl rfl rfl rfl rfl (cT_byteAt_ok l2 (gI (wI s 105 0 ((gI s 105 0) + ((1 : Int32)))) 105 0) _ _ (Ok_b h)) (fun x3_ x3_s h => ?_)
  refine ev_istore (pc' := 75) m_28 rfl rfl rfl rfl (ev_goto (pc' := 19) m_28 rfl rfl ?_)
  exact am_Ev.sub (L := [(0, .ref 7), (1, .ref 6), (2, .int (l2)), (3, .int (l3)), (4, .long ((l4 <<< (((8 : Int32)).toInt64 &&& 63)) ||| l6.toInt64)), (6, .int (x3_))]) ⟨rfl, rfl, rfl, rfl, rfl, rfl, trivial⟩ (hk19 l2 l3 ((l4 <<< (((8 : Int32)).toInt64 &&& 63)) ||| l6.toInt64) x3_ _ _ h)
def cT_takeWord_19_b (kk : Int32 → Int32 → Int64 → Int32 → ts → Option (Int32 × ts)) (l2 : Int32) (l3 : Int32) (l4 : Int64) (l6 : Int32) (s : ts) : Option (Int32 × ts) := (if l2 ≤ (gI s 105 0) then cT_takeWord_78 l3 l4 s else (cT_isLetter l6 s).bind (fun x3 => (if x3.1 = ((0 : Int32)) then (cT_isDigit l6 x3.2).bind (fun x6 => (if x6.1 = ((0 : Int32)) then cT_takeWord_78 l3 l4 x6.2 else cT_takeWord_43 kk l2 l3 l4 l6 x6.2)) else cT_takeWord_43 kk l2 l3 l4 l6 x3.2)))
def cT_takeWord_19 : Nat → Int32 → Int32 → Int64 → Int32 → ts → Option (Int32 × ts)
  | 0, _, _, _, _, _ => none
  | n + 1, l2, l3, l4, l6, s => cT_takeWord_19_b (cT_takeWord_19 n) l2 l3 l4 l6 s
set_option maxRecDepth 20000 in
theorem cT_takeWord_19_ok {d : Nat} : ∀ (n : Nat) (l2 : Int32) (l3 : Int32) (l4 : Int64) (l6 : Int32) (s : ts) (Q : Int32 × ts → Prop), Ok (cT_takeWord_19 n l2 l3 l4 l6 s) Q → am_Ev (d + 1) 28 (19, [(0, .ref 7), (1, .ref 6), (2, .int (l2)), (3, .int (l3)), (4, .long (l4)), (6, .int (l6))], []) (lay s) (tq_i Q) := by
  intro n
  induction n with
  | zero => intro l2 l3 l4 l6 s Q h; exact Ok_n h
  | succ n ih =>
    intro l2 l3 l4 l6 s Q h
    rw [cT_takeWord_19.eq_2] at h
    unfold cT_takeWord_19_b at h
    refine ev_aload_n (pc' := 20) m_28 rfl rfl rfl (tr_get (pc' := 23) (v := .int (gI _ 105 _)) m_28 rfl rfl ts_o7 rfl rfl rfl (ev_iload_n (pc' := 24) m_28 rfl rfl rfl ?_))
    refine ev_icmp_ge (t := 78) (e := 27) m_28 rfl rfl rfl (fun c9 => ?_) (fun c9 => ?_)
    · replace h := Ok_t c9 h
      exact am_Ev.sub (L := [(0, .ref 7), (3, .int (l3)), (4, .long (l4))]) ⟨rfl, rfl, rfl, trivial⟩ (cT_takeWord_78_ok l3 l4 _ _ h)
    · replace h := Ok_f c9 h
      refine ev_iload (pc' := 29) m_28 rfl rfl rfl ?_
      refine tr_cz (pc' := 32) m_28 rfl rfl rfl m_27 rfl rfl rfl rfl rfl rfl rfl rfl (cT_isLetter_ok l6 _ _ (Ok_b h)) (fun x3_ x3_s h1 h => ?_)
      refine ev_if_ne (t := 43) (e := 35) m_28 rfl rfl rfl (fun c8 => ?_) (fun c8 => ?_)
      · replace h := Ok_f c8 h
        exact am_Ev.sub (L := [(0, .ref 7), (1, .ref 6), (2, .int (l2)), (3, .int (l3)), (4, .long (l4)), (6, .int (l6))]) ⟨rfl, rfl, rfl, rfl, rfl, rfl, trivial⟩ (cT_takeWord_43_ok (cT_takeWord_19 n) ih l2 l3 l4 l6 _ _ h)
      · replace h := Ok_t c8 h
        refine ev_iload (pc' := 37) m_28 rfl rfl rfl ?_
        refine tr_cz (pc' := 40) m_28 rfl rfl rfl m_29 rfl rfl rfl rfl rfl rfl rfl rfl (cT_isDigit_ok l6 _ _ (Ok_b h)) (fun x6_ x6_s h4 h => ?_)
        refine ev_if_eq (t := 78) (e := 43) m_28 rfl rfl rfl (fun c7 => ?_) (fun c7 => ?_)
        · replace h := Ok_t c7 h
          exact am_Ev.sub (L := [(0, .ref 7), (3, .int (l3)), (4, .long (l4))]) ⟨rfl, rfl, rfl, trivial⟩ (cT_takeWord_78_ok l3 l4 _ _ h)
        · replace h := Ok_f c7 h
          exact am_Ev.sub (L := [(0, .ref 7), (1, .ref 6), (2, .int (l2)), (3, .int (l3)), (4, .long (l4)), (6, .int (l6))]) ⟨rfl, rfl, rfl, rfl, rfl, rfl, trivial⟩ (cT_takeWord_43_ok (cT_takeWord_19 n) ih l2 l3 l4 l6 _ _ h)
def cT_takeWord (l2 : Int32) (s : ts) : Option (Int32 × ts) := (cT_byteAt l2 (gI s 105 0) s).bind (fun x3 => cT_takeWord_19 tm_N l2 (gI s 105 0) ((0 : Int64)) x3.1 x3.2)
set_option maxRecDepth 20000 in
theorem cT_takeWord_ok {d : Nat} (l2 : Int32) (s : ts) (Q : Int32 × ts → Prop) (h : Ok (cT_takeWord l2 s) Q) : am_Ev (d + 1) 28 (0, [(0, .ref 7), (1, .ref 6), (2, .int (l2))], []) (lay s) (tq_i Q) := by
  unfold cT_takeWord at h
  refine ev_aload_n (pc' := 1) m_28 rfl rfl rfl (tr_get (pc' := 4) (v := .int (gI _ 105 _)) m_28 rfl rfl ts_o7 rfl rfl rfl (ev_istore_n (pc' := 5) m_28 rfl rfl rfl rfl (ev_lconst (pc' := 6) (u := 0) m_28 rfl rfl rfl (ev_lstore (pc' := 8) m_28 rfl rfl rfl rfl (ev_aload_n (pc' := 9) m_28 rfl rfl rfl (ev_iload_n (pc' := 10) m_28 rfl rfl rfl (ev_aload_n (pc' := 11) m_28 rfl rfl rfl ?_)))))))
  refine tr_get (pc' := 14) (v := .int (gI _ 105 _)) m_28 rfl rfl ts_o7 rfl rfl rfl ?_
  refine tr_ci (pc' := 17) m_28 rfl rfl rfl m_24 rfl rfl rfl rfl rfl rfl rfl (cT_byteAt_ok l2 (gI s 105 0) _ _ (Ok_b h)) (fun x3_ x3_s h => ?_)
  refine ev_istore (pc' := 19) m_28 rfl rfl rfl rfl ?_
  exact am_Ev.sub (L := [(0, .ref 7), (1, .ref 6), (2, .int (l2)), (3, .int (gI s 105 0)), (4, .long ((0 : Int64))), (6, .int (x3_))]) ⟨rfl, rfl, rfl, rfl, rfl, rfl, trivial⟩ (cT_takeWord_19_ok tm_N l2 (gI s 105 0) ((0 : Int64)) x3_ _ _ h)
def cT_takeNumber_75 (l3 : Int32) (l4 : Int64) (l6 : Int32) (s : ts) : Option (Int32 × ts) := (if ((gI s 105 0) - l3) ≤ ((9 : Int32)) then (cT_add ((3 : Int32)) l3 l4 s).bind (fun x3 => (cT_isLetter l6 x3.2).bind (fun x6 => (if x6.1 = ((0 : Int32)) then some (x3.1, x6.2) else (cT_add ((1 : Int32)) (gI x6.2 105 0) ((0 : Int64)) x6.2).bind (fun x9 => some (x9.1, x9.2))))) else (cT_add ((1 : Int32)) l3 ((0 : Int64)) s).bind (fun x13 => some (x13.1, x13.2)))
set_option maxRecDepth 20000 in
theorem cT_takeNumber_75_ok {d : Nat} (l3 : Int32) (l4 : Int64) (l6 : Int32) (s : ts) (Q : Int32 × ts → Prop) (h : Ok (cT_takeNumber_75 l3 l4 l6 s) Q) : am_Ev (d + 1) 30 (75, [(0, .ref 7), (3, .int (l3)), (4, .long (l4)), (6, .int (l6))], []) (lay s) (tq_i Q) := by
  unfold cT_takeNumber_75 at h
  refine ev_aload_n (pc' := 76) m_30 rfl rfl rfl (tr_get (pc' := 79) (v := .int (gI _ 105 _)) m_30 rfl rfl ts_o7 rfl rfl rfl (ev_iload_n (pc' := 80) m_30 rfl rfl rfl (ev_isub (pc' := 81) m_30 rfl rfl (ev_bipush (pc' := 83) (x := 9) m_30 rfl rfl rfl ?_))))
  refine ev_icmp_le (t := 94) (e := 86) m_30 rfl rfl rfl (fun c14 => ?_) (fun c14 => ?_)
  · replace h := Ok_t c14 h
    refine ev_aload_n (pc' := 95) m_30 rfl rfl rfl (ev_iconst (pc' := 96) (x := 3) m_30 rfl rfl rfl (ev_iload_n (pc' := 97) m_30 rfl rfl rfl (ev_lload (pc' := 99) m_30 rfl rfl rfl ?_)))
    refine tr_cz (pc' := 102) m_30 rfl rfl rfl m_26 rfl rfl rfl rfl rfl (tr_rcv ts_o7 rfl) rfl rfl (cT_add_ok ((3 : Int32)) l3 l4 _ _ (Ok_b h)) (fun x3_ x3_s h1 h => ?_)
    refine ev_istore (pc' := 104) m_30 rfl rfl rfl rfl (ev_iload (pc' := 106) m_30 rfl rfl rfl ?_)
    refine tr_cz (pc' := 109) m_30 rfl rfl rfl m_27 rfl rfl rfl rfl rfl rfl rfl rfl (cT_isLetter_ok l6 _ _ (Ok_b h)) (fun x6_ x6_s h4 h => ?_)
    refine ev_if_eq (t := 125) (e := 112) m_30 rfl rfl rfl (fun c10 => ?_) (fun c10 => ?_)
    · replace h := Ok_t c10 h
      refine ev_iload (pc' := 127) m_30 rfl rfl rfl ?_
      exact tr_rz m_30 rfl rfl h1 (Ok_s h)
    · replace h := Ok_f c10 h
      refine ev_aload_n (pc' := 113) m_30 rfl rfl rfl (ev_iconst (pc' := 114) (x := 1) m_30 rfl rfl rfl (ev_aload_n (pc' := 115) m_30 rfl rfl rfl (tr_get (pc' := 118) (v := .int (gI _ 105 _)) m_30 rfl rfl ts_o7 rfl rfl rfl (ev_lconst (pc' := 119) (u := 0) m_30 rfl rfl rfl ?_))))
      refine tr_cz (pc' := 122) m_30 rfl rfl rfl m_26 rfl rfl rfl rfl rfl (tr_rcv ts_o7 rfl) rfl rfl (cT_add_ok ((1 : Int32)) (gI x6_s 105 0) ((0 : Int64)) _ _ (Ok_b h)) (fun x9_ x9_s h7 h => ?_)
      refine ev_goto (pc' := 127) m_30 rfl rfl ?_
      exact tr_rz m_30 rfl rfl h7 (Ok_s h)
  · replace h := Ok_f c14 h
    refine ev_aload_n (pc' := 87) m_30 rfl rfl rfl (ev_iconst (pc' := 88) (x := 1) m_30 rfl rfl rfl (ev_iload_n (pc' := 89) m_30 rfl rfl rfl (ev_lconst (pc' := 90) (u := 0) m_30 rfl rfl rfl ?_)))
    refine tr_cz (pc' := 93) m_30 rfl rfl rfl m_26 rfl rfl rfl rfl rfl (tr_rcv ts_o7 rfl) rfl rfl (cT_add_ok ((1 : Int32)) l3 ((0 : Int64)) _ _ (Ok_b h)) (fun x13_ x13_s h11 h => ?_)
    exact tr_rz m_30 rfl rfl h11 (Ok_s h)
def cT_takeNumber_19_b (kk : Int32 → Int32 → Int64 → Int32 → ts → Option (Int32 × ts)) (l2 : Int32) (l3 : Int32) (l4 : Int64) (l6 : Int32) (s : ts) : Option (Int32 × ts) := (if l2 ≤ (gI s 105 0) then cT_takeNumber_75 l3 l4 l6 s else (cT_isDigit l6 s).bind (fun x3 => (if x3.1 = ((0 : Int32)) then cT_takeNumber_75 l3 l4 l6 x3.2 else (cT_byteAt l2 (gI (wI x3.2 105 0 ((gI x3.2 105 0) + ((1 : Int32)))) 105 0) (wI x3.2 105 0 ((gI x3.2 105 0) + ((1 : Int32))))).bind (fun x6 => kk l2 l3 (((l4 * ((10 : Int64))) + l6.toInt64) - ((48 : Int64))) x6.1 x6.2))))
def cT_takeNumber_19 : Nat → Int32 → Int32 → Int64 → Int32 → ts → Option (Int32 × ts)
  | 0, _, _, _, _, _ => none
  | n + 1, l2, l3, l4, l6, s => cT_takeNumber_19_b (cT_takeNumber_19 n) l2 l3 l4 l6 s
set_option maxRecDepth 20000 in
theorem cT_takeNumber_19_ok {d : Nat} : ∀ (n : Nat) (l2 : Int32) (l3 : Int32) (l4 : Int64) (l6 : Int32) (s : ts) (Q : Int32 × ts → Prop), Ok (cT_takeNumber_19 n l2 l3 l4 l6 s) Q → am_Ev (d + 1) 30 (19, [(0, .ref 7), (1, .ref 6), (2, .int (l2)), (3, .int (l3)), (4, .long (l4)), (6, .int (l6))], []) (lay s) (tq_i Q) := by
  intro n
  induction n with
  | zero => intro l2 l3 l4 l6 s Q h; exact Ok_n h
  | succ n ih =>
    intro l2 l3 l4 l6 s Q h
    rw [cT_takeNumber_19.eq_2] at h
    unfold cT_takeNumber_19_b at h
    refine ev_aload_n (pc' := 20) m_30 rfl rfl rfl (tr_get (pc' := 23) (v := .int (gI _ 105 _)) m_30 rfl rfl ts_o7 rfl rfl rfl (ev_iload_n (pc' := 24) m_30 rfl rfl rfl ?_))
    refine ev_icmp_ge (t := 75) (e := 27) m_30 rfl rfl rfl (fun c8 => ?_) (fun c8 => ?_)
    · replace h := Ok_t c8 h
      exact am_Ev.sub (L := [(0, .ref 7), (3, .int (l3)), (4, .long (l4)), (6, .int (l6))]) ⟨rfl, rfl, rfl, rfl, trivial⟩ (cT_takeNumber_75_ok l3 l4 l6 _ _ h)
    · replace h := Ok_f c8 h
      refine ev_iload (pc' := 29) m_30 rfl rfl rfl ?_
      refine tr_cz (pc' := 32) m_30 rfl rfl rfl m_29 rfl rfl rfl rfl rfl rfl rfl rfl (cT_isDigit_ok l6 _ _ (Ok_b h)) (fun x3_ x3_s h1 h => ?_)
      refine ev_if_eq (t := 75) (e := 35) m_30 rfl rfl rfl (fun c7 => ?_) (fun c7 => ?_)
      · replace h := Ok_t c7 h
        exact am_Ev.sub (L := [(0, .ref 7), (3, .int (l3)), (4, .long (l4)), (6, .int (l6))]) ⟨rfl, rfl, rfl, rfl, trivial⟩ (cT_takeNumber_75_ok l3 l4 l6 _ _ h)
      · replace h := Ok_f c7 h
        refine ev_lload (pc' := 37) m_30 rfl rfl rfl (tr_ldc2 (pc' := 40) m_30 rfl rfl rfl (ev_lmul (pc' := 41) m_30 rfl rfl (ev_iload (pc' := 43) m_30 rfl rfl rfl (ev_i2l (pc' := 44) m_30 rfl rfl (ev_ladd (pc' := 45) m_30 rfl rfl (tr_ldc2 (pc' := 48) m_30 rfl rfl rfl (ev_lsub (pc' := 49) m_30 rfl rfl ?_)))))))
        refine ev_lstore (pc' := 51) m_30 rfl rfl rfl rfl (ev_aload_n (pc' := 52) m_30 rfl rfl rfl (ev_dup (pc' := 53) m_30 rfl rfl rfl (tr_get (pc' := 56) (v := .int (gI _ 105 _)) m_30 rfl rfl ts_o7 rfl rfl rfl (ev_iconst (pc' := 57) (x := 1) m_30 rfl rfl rfl (ev_iadd (pc' := 58) m_30 rfl rfl (tr_pI (pc' := 61) (f := 105) m_30 rfl rfl rfl ts_o7 rfl rfl rfl rfl (ev_aload_n (pc' := 62) m_30 rfl rfl rfl ?_)))))))
        refine ev_iload_n (pc' := 63) m_30 rfl rfl rfl (ev_aload_n (pc' := 64) m_30 rfl rfl rfl (tr_get (pc' := 67) (v := .int (gI _ 105 _)) m_30 rfl rfl ts_o7 rfl rfl rfl ?_))
        refine tr_ci (pc' := 70) m_30 rfl rfl rfl m_24 rfl rfl rfl rfl rfl rfl rfl (cT_byteAt_ok l2 (gI (wI x3_s 105 0 ((gI x3_s 105 0) + ((1 : Int32)))) 105 0) _ _ (Ok_b h)) (fun x6_ x6_s h => ?_)
        refine ev_istore (pc' := 72) m_30 rfl rfl rfl rfl (ev_goto (pc' := 19) m_30 rfl rfl ?_)
        exact am_Ev.sub (L := [(0, .ref 7), (1, .ref 6), (2, .int (l2)), (3, .int (l3)), (4, .long (((l4 * ((10 : Int64))) + l6.toInt64) - ((48 : Int64)))), (6, .int (x6_))]) ⟨rfl, rfl, rfl, rfl, rfl, rfl, trivial⟩ (ih l2 l3 (((l4 * ((10 : Int64))) + l6.toInt64) - ((48 : Int64))) x6_ _ _ h)
def cT_takeNumber (l2 : Int32) (s : ts) : Option (Int32 × ts) := (cT_byteAt l2 (gI s 105 0) s).bind (fun x3 => cT_takeNumber_19 tm_N l2 (gI s 105 0) ((0 : Int64)) x3.1 x3.2)
set_option maxRecDepth 20000 in
theorem cT_takeNumber_ok {d : Nat} (l2 : Int32) (s : ts) (Q : Int32 × ts → Prop) (h : Ok (cT_takeNumber l2 s) Q) : am_Ev (d + 1) 30 (0, [(0, .ref 7), (1, .ref 6), (2, .int (l2))], []) (lay s) (tq_i Q) := by
  unfold cT_takeNumber at h
  refine ev_aload_n (pc' := 1) m_30 rfl rfl rfl (tr_get (pc' := 4) (v := .int (gI _ 105 _)) m_30 rfl rfl ts_o7 rfl rfl rfl (ev_istore_n (pc' := 5) m_30 rfl rfl rfl rfl (ev_lconst (pc' := 6) (u := 0) m_30 rfl rfl rfl (ev_lstore (pc' := 8) m_30 rfl rfl rfl rfl (ev_aload_n (pc' := 9) m_30 rfl rfl rfl (ev_iload_n (pc' := 10) m_30 rfl rfl rfl (ev_aload_n (pc' := 11) m_30 rfl rfl rfl ?_)))))))
  refine tr_get (pc' := 14) (v := .int (gI _ 105 _)) m_30 rfl rfl ts_o7 rfl rfl rfl ?_
  refine tr_ci (pc' := 17) m_30 rfl rfl rfl m_24 rfl rfl rfl rfl rfl rfl rfl (cT_byteAt_ok l2 (gI s 105 0) _ _ (Ok_b h)) (fun x3_ x3_s h => ?_)
  refine ev_istore (pc' := 19) m_30 rfl rfl rfl rfl ?_
  exact am_Ev.sub (L := [(0, .ref 7), (1, .ref 6), (2, .int (l2)), (3, .int (gI s 105 0)), (4, .long ((0 : Int64))), (6, .int (x3_))]) ⟨rfl, rfl, rfl, rfl, rfl, rfl, trivial⟩ (cT_takeNumber_19_ok tm_N l2 (gI s 105 0) ((0 : Int64)) x3_ _ _ h)
def cT_isPair (l0 : Int32) (l1 : Int32) (s : ts) : Option (Int32 × ts) := (if l0 = (33 : Int32) then (if l1 = ((61 : Int32)) then some ((1 : Int32), s) else some ((0 : Int32), s)) else (if l0 = (38 : Int32) then (if l1 = l0 then some ((1 : Int32), s) else some ((0 : Int32), s)) else (if l0 = (60 : Int32) then (if l1 = ((61 : Int32)) then some ((1 : Int32), s) else some ((0 : Int32), s)) else (if l0 = (61 : Int32) then (if l1 = ((61 : Int32)) then some ((1 : Int32), s) else some ((0 : Int32), s)) else (if l0 = (62 : Int32) then (if l1 = ((61 : Int32)) then some ((1 : Int32), s) else some ((0 : Int32), s)) else (if l0 = (124 : Int32) then (if l1 = l0 then some ((1 : Int32), s) else some ((0 : Int32), s)) else some ((0 : Int32), s)))))))
set_option maxRecDepth 20000 in
theorem cT_isPair_ok {d : Nat} (l0 : Int32) (l1 : Int32) (s : ts) (Q : Int32 × ts → Prop) (h : Ok (cT_isPair l0 l1 s) Q) : am_Ev (d + 0) 32 (0, [(0, .int (l0)), (1, .int (l1))], []) (lay s) (tq_i Q) := by
  unfold cT_isPair at h
  refine ev_iload_n (pc' := 1) m_32 rfl rfl rfl ?_
  by_cases c2 : l0 = (33 : Int32)
  · replace h := Ok_t c2 h
    refine ev_sw (pc' := 60) m_32 rfl (by rw [c2]; rfl) ?_
    refine ev_iload_n (pc' := 61) m_32 rfl rfl rfl (ev_bipush (pc' := 63) (x := 61) m_32 rfl rfl rfl ?_)
    refine ev_icmp_ne (t := 70) (e := 66) m_32 rfl rfl rfl (fun c1 => ?_) (fun c1 => ?_)
    · replace h := Ok_f c1 h
      refine ev_iconst (pc' := 71) (x := 0) m_32 rfl rfl rfl ?_
      exact tr_rz m_32 rfl rfl (Or.inl rfl) (Ok_s h)
    · replace h := Ok_t c1 h
      refine ev_iconst (pc' := 67) (x := 1) m_32 rfl rfl rfl (ev_goto (pc' := 71) m_32 rfl rfl ?_)
      exact tr_rz m_32 rfl rfl (Or.inr rfl) (Ok_s h)
  replace h := Ok_f c2 h
  by_cases c4 : l0 = (38 : Int32)
  · replace h := Ok_t c4 h
    refine ev_sw (pc' := 72) m_32 rfl (by rw [c4]; rfl) ?_
    refine ev_iload_n (pc' := 73) m_32 rfl rfl rfl (ev_iload_n (pc' := 74) m_32 rfl rfl rfl ?_)
    refine ev_icmp_ne (t := 81) (e := 77) m_32 rfl rfl rfl (fun c3 => ?_) (fun c3 => ?_)
    · replace h := Ok_f c3 h
      refine ev_iconst (pc' := 82) (x := 0) m_32 rfl rfl rfl ?_
      exact tr_rz m_32 rfl rfl (Or.inl rfl) (Ok_s h)
    · replace h := Ok_t c3 h
      refine ev_iconst (pc' := 78) (x := 1) m_32 rfl rfl rfl (ev_goto (pc' := 82) m_32 rfl rfl ?_)
      exact tr_rz m_32 rfl rfl (Or.inr rfl) (Ok_s h)
  replace h := Ok_f c4 h
  by_cases c6 : l0 = (60 : Int32)
  · replace h := Ok_t c6 h
    refine ev_sw (pc' := 60) m_32 rfl (by rw [c6]; rfl) ?_
    refine ev_iload_n (pc' := 61) m_32 rfl rfl rfl (ev_bipush (pc' := 63) (x := 61) m_32 rfl rfl rfl ?_)
    refine ev_icmp_ne (t := 70) (e := 66) m_32 rfl rfl rfl (fun c5 => ?_) (fun c5 => ?_)
    · replace h := Ok_f c5 h
      refine ev_iconst (pc' := 71) (x := 0) m_32 rfl rfl rfl ?_
      exact tr_rz m_32 rfl rfl (Or.inl rfl) (Ok_s h)
    · replace h := Ok_t c5 h
      refine ev_iconst (pc' := 67) (x := 1) m_32 rfl rfl rfl (ev_goto (pc' := 71) m_32 rfl rfl ?_)
      exact tr_rz m_32 rfl rfl (Or.inr rfl) (Ok_s h)
  replace h := Ok_f c6 h
  by_cases c8 : l0 = (61 : Int32)
  · replace h := Ok_t c8 h
    refine ev_sw (pc' := 60) m_32 rfl (by rw [c8]; rfl) ?_
    refine ev_iload_n (pc' := 61) m_32 rfl rfl rfl (ev_bipush (pc' := 63) (x := 61) m_32 rfl rfl rfl ?_)
    refine ev_icmp_ne (t := 70) (e := 66) m_32 rfl rfl rfl (fun c7 => ?_) (fun c7 => ?_)
    · replace h := Ok_f c7 h
      refine ev_iconst (pc' := 71) (x := 0) m_32 rfl rfl rfl ?_
      exact tr_rz m_32 rfl rfl (Or.inl rfl) (Ok_s h)
    · replace h := Ok_t c7 h
      refine ev_iconst (pc' := 67) (x := 1) m_32 rfl rfl rfl (ev_goto (pc' := 71) m_32 rfl rfl ?_)
      exact tr_rz m_32 rfl rfl (Or.inr rfl) (Ok_s h)
  replace h := Ok_f c8 h
  by_cases c10 : l0 = (62 : Int32)
  · replace h := Ok_t c10 h
    refine ev_sw (pc' := 60) m_32 rfl (by rw [c10]; rfl) ?_
    refine ev_iload_n (pc' := 61) m_32 rfl rfl rfl (ev_bipush (pc' := 63) (x := 61) m_32 rfl rfl rfl ?_)
    refine ev_icmp_ne (t := 70) (e := 66) m_32 rfl rfl rfl (fun c9 => ?_) (fun c9 => ?_)
    · replace h := Ok_f c9 h
      refine ev_iconst (pc' := 71) (x := 0) m_32 rfl rfl rfl ?_
      exact tr_rz m_32 rfl rfl (Or.inl rfl) (Ok_s h)
    · replace h := Ok_t c9 h
      refine ev_iconst (pc' := 67) (x := 1) m_32 rfl rfl rfl (ev_goto (pc' := 71) m_32 rfl rfl ?_)
      exact tr_rz m_32 rfl rfl (Or.inr rfl) (Ok_s h)
  replace h := Ok_f c10 h
  by_cases c12 : l0 = (124 : Int32)
  · replace h := Ok_t c12 h
    refine ev_sw (pc' := 72) m_32 rfl (by rw [c12]; rfl) ?_
    refine ev_iload_n (pc' := 73) m_32 rfl rfl rfl (ev_iload_n (pc' := 74) m_32 rfl rfl rfl ?_)
    refine ev_icmp_ne (t := 81) (e := 77) m_32 rfl rfl rfl (fun c11 => ?_) (fun c11 => ?_)
    · replace h := Ok_f c11 h
      refine ev_iconst (pc' := 82) (x := 0) m_32 rfl rfl rfl ?_
      exact tr_rz m_32 rfl rfl (Or.inl rfl) (Ok_s h)
    · replace h := Ok_t c11 h
      refine ev_iconst (pc' := 78) (x := 1) m_32 rfl rfl rfl (ev_goto (pc' := 82) m_32 rfl rfl ?_)
      exact tr_rz m_32 rfl rfl (Or.inr rfl) (Ok_s h)
  replace h := Ok_f c12 h
  refine ev_sw (pc' := 83) m_32 rfl (by exact ev_ldef rfl (by simp only [Op.lookupswitch.offset, List.find?]; rw [if_neg (ts_nel c2 (by decide)), if_neg (ts_nel c4 (by decide)), if_neg (ts_nel c6 (by decide)), if_neg (ts_nel c8 (by decide)), if_neg (ts_nel c10 (by decide)), if_neg (ts_nel c12 (by decide))]) rfl) ?_
  refine ev_iconst (pc' := 84) (x := 0) m_32 rfl rfl rfl ?_
  exact tr_rz m_32 rfl rfl (Or.inl rfl) (Ok_s h)
def cT_isSign (l0 : Int32) (s : ts) : Option (Int32 × ts) := (if l0 = (33 : Int32) then some ((1 : Int32), s) else (if l0 = (37 : Int32) then some ((1 : Int32), s) else (if l0 = (40 : Int32) then some ((1 : Int32), s) else (if l0 = (41 : Int32) then some ((1 : Int32), s) else (if l0 = (42 : Int32) then some ((1 : Int32), s) else (if l0 = (43 : Int32) then some ((1 : Int32), s) else (if l0 = (44 : Int32) then some ((1 : Int32), s) else (if l0 = (45 : Int32) then some ((1 : Int32), s) else (if l0 = (47 : Int32) then some ((1 : Int32), s) else (if l0 = (59 : Int32) then some ((1 : Int32), s) else (if l0 = (60 : Int32) then some ((1 : Int32), s) else (if l0 = (61 : Int32) then some ((1 : Int32), s) else (if l0 = (62 : Int32) then some ((1 : Int32), s) else (if l0 = (123 : Int32) then some ((1 : Int32), s) else (if l0 = (125 : Int32) then some ((1 : Int32), s) else some ((0 : Int32), s))))))))))))))))
set_option maxRecDepth 20000 in
theorem cT_isSign_ok {d : Nat} (l0 : Int32) (s : ts) (Q : Int32 × ts → Prop) (h : Ok (cT_isSign l0 s) Q) : am_Ev (d + 0) 33 (0, [(0, .int (l0))], []) (lay s) (tq_i Q) := by
  unfold cT_isSign at h
  refine ev_iload_n (pc' := 1) m_33 rfl rfl rfl ?_
  by_cases c1 : l0 = (33 : Int32)
  · replace h := Ok_t c1 h
    refine ev_sw (pc' := 132) m_33 rfl (by rw [c1]; rfl) ?_
    refine ev_iconst (pc' := 133) (x := 1) m_33 rfl rfl rfl ?_
    exact tr_rz m_33 rfl rfl (Or.inr rfl) (Ok_s h)
  replace h := Ok_f c1 h
  by_cases c2 : l0 = (37 : Int32)
  · replace h := Ok_t c2 h
    refine ev_sw (pc' := 132) m_33 rfl (by rw [c2]; rfl) ?_
    refine ev_iconst (pc' := 133) (x := 1) m_33 rfl rfl rfl ?_
    exact tr_rz m_33 rfl rfl (Or.inr rfl) (Ok_s h)
  replace h := Ok_f c2 h
  by_cases c3 : l0 = (40 : Int32)
  · replace h := Ok_t c3 h
    refine ev_sw (pc' := 132) m_33 rfl (by rw [c3]; rfl) ?_
    refine ev_iconst (pc' := 133) (x := 1) m_33 rfl rfl rfl ?_
    exact tr_rz m_33 rfl rfl (Or.inr rfl) (Ok_s h)
  replace h := Ok_f c3 h
  by_cases c4 : l0 = (41 : Int32)
  · replace h := Ok_t c4 h
    refine ev_sw (pc' := 132) m_33 rfl (by rw [c4]; rfl) ?_
    refine ev_iconst (pc' := 133) (x := 1) m_33 rfl rfl rfl ?_
    exact tr_rz m_33 rfl rfl (Or.inr rfl) (Ok_s h)
  replace h := Ok_f c4 h
  by_cases c5 : l0 = (42 : Int32)
  · replace h := Ok_t c5 h
    refine ev_sw (pc' := 132) m_33 rfl (by rw [c5]; rfl) ?_
    refine ev_iconst (pc' := 133) (x := 1) m_33 rfl rfl rfl ?_
    exact tr_rz m_33 rfl rfl (Or.inr rfl) (Ok_s h)
  replace h := Ok_f c5 h
  by_cases c6 : l0 = (43 : Int32)
  · replace h := Ok_t c6 h
    refine ev_sw (pc' := 132) m_33 rfl (by rw [c6]; rfl) ?_
    refine ev_iconst (pc' := 133) (x := 1) m_33 rfl rfl rfl ?_
    exact tr_rz m_33 rfl rfl (Or.inr rfl) (Ok_s h)
  replace h := Ok_f c6 h
  by_cases c7 : l0 = (44 : Int32)
  · replace h := Ok_t c7 h
    refine ev_sw (pc' := 132) m_33 rfl (by rw [c7]; rfl) ?_
    refine ev_iconst (pc' := 133) (x := 1) m_33 rfl rfl rfl ?_
    exact tr_rz m_33 rfl rfl (Or.inr rfl) (Ok_s h)
  replace h := Ok_f c7 h
  by_cases c8 : l0 = (45 : Int32)
  · replace h := Ok_t c8 h
    refine ev_sw (pc' := 132) m_33 rfl (by rw [c8]; rfl) ?_
    refine ev_iconst (pc' := 133) (x := 1) m_33 rfl rfl rfl ?_
    exact tr_rz m_33 rfl rfl (Or.inr rfl) (Ok_s h)
  replace h := Ok_f c8 h
  by_cases c9 : l0 = (47 : Int32)
  · replace h := Ok_t c9 h
    refine ev_sw (pc' := 132) m_33 rfl (by rw [c9]; rfl) ?_
    refine ev_iconst (pc' := 133) (x := 1) m_33 rfl rfl rfl ?_
    exact tr_rz m_33 rfl rfl (Or.inr rfl) (Ok_s h)
  replace h := Ok_f c9 h
  by_cases c10 : l0 = (59 : Int32)
  · replace h := Ok_t c10 h
    refine ev_sw (pc' := 132) m_33 rfl (by rw [c10]; rfl) ?_
    refine ev_iconst (pc' := 133) (x := 1) m_33 rfl rfl rfl ?_
    exact tr_rz m_33 rfl rfl (Or.inr rfl) (Ok_s h)
  replace h := Ok_f c10 h
  by_cases c11 : l0 = (60 : Int32)
  · replace h := Ok_t c11 h
    refine ev_sw (pc' := 132) m_33 rfl (by rw [c11]; rfl) ?_
    refine ev_iconst (pc' := 133) (x := 1) m_33 rfl rfl rfl ?_
    exact tr_rz m_33 rfl rfl (Or.inr rfl) (Ok_s h)
  replace h := Ok_f c11 h
  by_cases c12 : l0 = (61 : Int32)
  · replace h := Ok_t c12 h
    refine ev_sw (pc' := 132) m_33 rfl (by rw [c12]; rfl) ?_
    refine ev_iconst (pc' := 133) (x := 1) m_33 rfl rfl rfl ?_
    exact tr_rz m_33 rfl rfl (Or.inr rfl) (Ok_s h)
  replace h := Ok_f c12 h
  by_cases c13 : l0 = (62 : Int32)
  · replace h := Ok_t c13 h
    refine ev_sw (pc' := 132) m_33 rfl (by rw [c13]; rfl) ?_
    refine ev_iconst (pc' := 133) (x := 1) m_33 rfl rfl rfl ?_
    exact tr_rz m_33 rfl rfl (Or.inr rfl) (Ok_s h)
  replace h := Ok_f c13 h
  by_cases c14 : l0 = (123 : Int32)
  · replace h := Ok_t c14 h
    refine ev_sw (pc' := 132) m_33 rfl (by rw [c14]; rfl) ?_
    refine ev_iconst (pc' := 133) (x := 1) m_33 rfl rfl rfl ?_
    exact tr_rz m_33 rfl rfl (Or.inr rfl) (Ok_s h)
  replace h := Ok_f c14 h
  by_cases c15 : l0 = (125 : Int32)
  · replace h := Ok_t c15 h
    refine ev_sw (pc' := 132) m_33 rfl (by rw [c15]; rfl) ?_
    refine ev_iconst (pc' := 133) (x := 1) m_33 rfl rfl rfl ?_
    exact tr_rz m_33 rfl rfl (Or.inr rfl) (Ok_s h)
  replace h := Ok_f c15 h
  refine ev_sw (pc' := 134) m_33 rfl (by exact ev_ldef rfl (by simp only [Op.lookupswitch.offset, List.find?]; rw [if_neg (ts_nel c1 (by decide)), if_neg (ts_nel c2 (by decide)), if_neg (ts_nel c3 (by decide)), if_neg (ts_nel c4 (by decide)), if_neg (ts_nel c5 (by decide)), if_neg (ts_nel c6 (by decide)), if_neg (ts_nel c7 (by decide)), if_neg (ts_nel c8 (by decide)), if_neg (ts_nel c9 (by decide)), if_neg (ts_nel c10 (by decide)), if_neg (ts_nel c11 (by decide)), if_neg (ts_nel c12 (by decide)), if_neg (ts_nel c13 (by decide)), if_neg (ts_nel c14 (by decide)), if_neg (ts_nel c15 (by decide))]) rfl) ?_
  refine ev_iconst (pc' := 135) (x := 0) m_33 rfl rfl rfl ?_
  exact tr_rz m_33 rfl rfl (Or.inl rfl) (Ok_s h)
def cT_takeSign_58 (l3 : Int32) (t1 : Int32) (s : ts) : Option (Int32 × ts) := (cT_add t1 l3 ((0 : Int64)) s).bind (fun x3 => some (x3.1, x3.2))
set_option maxRecDepth 20000 in
theorem cT_takeSign_58_ok {d : Nat} (l3 : Int32) (t1 : Int32) (s : ts) (Q : Int32 × ts → Prop) (h : Ok (cT_takeSign_58 l3 t1 s) Q) : am_Ev (d + 1) 31 (58, [(3, .int (l3))], [.int (t1), .ref 7]) (lay s) (tq_i Q) := by
  unfold cT_takeSign_58 at h
  refine ev_iload_n (pc' := 59) m_31 rfl rfl rfl (ev_lconst (pc' := 60) (u := 0) m_31 rfl rfl rfl ?_)
  refine tr_cz (pc' := 63) m_31 rfl rfl rfl m_26 rfl rfl rfl rfl rfl (tr_rcv ts_o7 rfl) rfl rfl (cT_add_ok t1 l3 ((0 : Int64)) _ _ (Ok_b h)) (fun x3_ x3_s h1 h => ?_)
  exact tr_rz m_31 rfl rfl h1 (Ok_s h)
def cT_takeSign (l1 : Int32) (l2 : Int32) (s : ts) : Option (Int32 × ts) := (cT_isPair l1 l2 s).bind (fun x3 => (if x3.1 = ((0 : Int32)) then (cT_isSign l1 (wI x3.2 105 0 ((gI x3.2 105 0) + ((1 : Int32))))).bind (fun x6 => (if x6.1 = ((0 : Int32)) then cT_takeSign_58 (gI s 105 0) ((1 : Int32)) x6.2 else cT_takeSign_58 (gI s 105 0) l1 x6.2)) else (cT_add (((256 : Int32)) + l1) (gI s 105 0) ((0 : Int64)) (wI x3.2 105 0 ((gI x3.2 105 0) + ((2 : Int32))))).bind (fun x10 => some (x10.1, x10.2))))
set_option maxRecDepth 20000 in
theorem cT_takeSign_ok {d : Nat} (l1 : Int32) (l2 : Int32) (s : ts) (Q : Int32 × ts → Prop) (h : Ok (cT_takeSign l1 l2 s) Q) : am_Ev (d + 1) 31 (0, [(0, .ref 7), (1, .int (l1)), (2, .int (l2))], []) (lay s) (tq_i Q) := by
  unfold cT_takeSign at h
  refine ev_aload_n (pc' := 1) m_31 rfl rfl rfl (tr_get (pc' := 4) (v := .int (gI _ 105 _)) m_31 rfl rfl ts_o7 rfl rfl rfl (ev_istore_n (pc' := 5) m_31 rfl rfl rfl rfl (ev_iload_n (pc' := 6) m_31 rfl rfl rfl (ev_iload_n (pc' := 7) m_31 rfl rfl rfl ?_))))
  refine tr_cz (pc' := 10) m_31 rfl rfl rfl m_32 rfl rfl rfl rfl rfl rfl rfl rfl (cT_isPair_ok l1 l2 _ _ (Ok_b h)) (fun x3_ x3_s h1 h => ?_)
  refine ev_if_eq (t := 35) (e := 13) m_31 rfl rfl rfl (fun c11 => ?_) (fun c11 => ?_)
  · replace h := Ok_t c11 h
    refine ev_aload_n (pc' := 36) m_31 rfl rfl rfl (ev_dup (pc' := 37) m_31 rfl rfl rfl (tr_get (pc' := 40) (v := .int (gI _ 105 _)) m_31 rfl rfl ts_o7 rfl rfl rfl (ev_iconst (pc' := 41) (x := 1) m_31 rfl rfl rfl (ev_iadd (pc' := 42) m_31 rfl rfl (tr_pI (pc' := 45) (f := 105) m_31 rfl rfl rfl ts_o7 rfl rfl rfl rfl (ev_aload_n (pc' := 46) m_31 rfl rfl rfl (ev_iload_n (pc' := 47) m_31 rfl rfl rfl ?_)))))))
    refine tr_cz (pc' := 50) m_31 rfl rfl rfl m_33 rfl rfl rfl rfl rfl rfl rfl rfl (cT_isSign_ok l1 _ _ (Ok_b h)) (fun x6_ x6_s h4 h => ?_)
    refine ev_if_eq (t := 57) (e := 53) m_31 rfl rfl rfl (fun c7 => ?_) (fun c7 => ?_)
    · replace h := Ok_t c7 h
      refine ev_iconst (pc' := 58) (x := 1) m_31 rfl rfl rfl ?_
      exact am_Ev.sub (L := [(3, .int (gI s 105 0))]) ⟨rfl, trivial⟩ (cT_takeSign_58_ok (gI s 105 0) ((1 : Int32)) _ _ h)
    · replace h := Ok_f c7 h
      refine ev_iload_n (pc' := 54) m_31 rfl rfl rfl (ev_goto (pc' := 58) m_31 rfl rfl ?_)
      exact am_Ev.sub (L := [(3, .int (gI s 105 0))]) ⟨rfl, trivial⟩ (cT_takeSign_58_ok (gI s 105 0) l1 _ _ h)
  · replace h := Ok_f c11 h
    refine ev_aload_n (pc' := 14) m_31 rfl rfl rfl (ev_dup (pc' := 15) m_31 rfl rfl rfl (tr_get (pc' := 18) (v := .int (gI _ 105 _)) m_31 rfl rfl ts_o7 rfl rfl rfl (ev_iconst (pc' := 19) (x := 2) m_31 rfl rfl rfl (ev_iadd (pc' := 20) m_31 rfl rfl (tr_pI (pc' := 23) (f := 105) m_31 rfl rfl rfl ts_o7 rfl rfl rfl rfl (ev_aload_n (pc' := 24) m_31 rfl rfl rfl (ev_sipush (pc' := 27) (x := 256) m_31 rfl rfl rfl ?_)))))))
    refine ev_iload_n (pc' := 28) m_31 rfl rfl rfl (ev_iadd (pc' := 29) m_31 rfl rfl (ev_iload_n (pc' := 30) m_31 rfl rfl rfl (ev_lconst (pc' := 31) (u := 0) m_31 rfl rfl rfl ?_)))
    refine tr_cz (pc' := 34) m_31 rfl rfl rfl m_26 rfl rfl rfl rfl rfl (tr_rcv ts_o7 rfl) rfl rfl (cT_add_ok (((256 : Int32)) + l1) (gI s 105 0) ((0 : Int64)) _ _ (Ok_b h)) (fun x10_ x10_s h8 h => ?_)
    exact tr_rz m_31 rfl rfl h8 (Ok_s h)
def cT_takeToken (l2 : Int32) (s : ts) : Option (Int32 × ts) := (cT_byteAt l2 (gI s 105 0) s).bind (fun x3 => (if x3.1 = ((-2 : Int32)) then (cT_add ((0 : Int32)) l2 ((0 : Int64)) x3.2).bind (fun x26 => some (x26.1, x26.2)) else (cT_isLetter x3.1 x3.2).bind (fun x6 => (if x6.1 = ((0 : Int32)) then (cT_isDigit x3.1 x6.2).bind (fun x9 => (if x9.1 = ((0 : Int32)) then (cT_byteAt l2 ((gI x9.2 105 0) + ((1 : Int32))) x9.2).bind (fun x12 => (cT_takeSign x3.1 x12.1 x12.2).bind (fun x15 => some (x15.1, x15.2))) else (cT_takeNumber l2 x9.2).bind (fun x18 => some (x18.1, x18.2)))) else (cT_takeWord l2 x6.2).bind (fun x22 => some (x22.1, x22.2))))))
set_option maxRecDepth 20000 in
theorem cT_takeToken_ok {d : Nat} (l2 : Int32) (s : ts) (Q : Int32 × ts → Prop) (h : Ok (cT_takeToken l2 s) Q) : am_Ev (d + 2) 25 (0, [(0, .ref 7), (1, .ref 6), (2, .int (l2))], []) (lay s) (tq_i Q) := by
  unfold cT_takeToken at h
  refine ev_aload_n (pc' := 1) m_25 rfl rfl rfl (ev_iload_n (pc' := 2) m_25 rfl rfl rfl (ev_aload_n (pc' := 3) m_25 rfl rfl rfl (tr_get (pc' := 6) (v := .int (gI _ 105 _)) m_25 rfl rfl ts_o7 rfl rfl rfl ?_)))
  refine tr_ci (pc' := 9) m_25 rfl rfl rfl m_24 rfl rfl rfl rfl rfl rfl rfl (cT_byteAt_ok l2 (gI s 105 0) _ _ (Ok_b h)) (fun x3_ x3_s h => ?_)
  refine ev_istore_n (pc' := 10) m_25 rfl rfl rfl rfl (ev_iload_n (pc' := 11) m_25 rfl rfl rfl (ev_bipush (pc' := 13) (x := -2) m_25 rfl rfl rfl ?_))
  refine ev_icmp_ne (t := 24) (e := 16) m_25 rfl rfl rfl (fun c27 => ?_) (fun c27 => ?_)
  · replace h := Ok_f c27 h
    refine ev_iload_n (pc' := 25) m_25 rfl rfl rfl ?_
    refine tr_cz (pc' := 28) m_25 rfl rfl rfl m_27 rfl rfl rfl rfl rfl rfl rfl rfl (cT_isLetter_ok x3_ _ _ (Ok_b h)) (fun x6_ x6_s h4 h => ?_)
    refine ev_if_eq (t := 38) (e := 31) m_25 rfl rfl rfl (fun c23 => ?_) (fun c23 => ?_)
    · replace h := Ok_t c23 h
      refine ev_iload_n (pc' := 39) m_25 rfl rfl rfl ?_
      refine tr_cz (pc' := 42) m_25 rfl rfl rfl m_29 rfl rfl rfl rfl rfl rfl rfl rfl (cT_isDigit_ok x3_ _ _ (Ok_b h)) (fun x9_ x9_s h7 h => ?_)
      refine ev_if_eq (t := 52) (e := 45) m_25 rfl rfl rfl (fun c19 => ?_) (fun c19 => ?_)
      · replace h := Ok_t c19 h
        refine ev_aload_n (pc' := 53) m_25 rfl rfl rfl (ev_iload_n (pc' := 54) m_25 rfl rfl rfl (ev_aload_n (pc' := 55) m_25 rfl rfl rfl (ev_iload_n (pc' := 56) m_25 rfl rfl rfl (ev_aload_n (pc' := 57) m_25 rfl rfl rfl (tr_get (pc' := 60) (v := .int (gI _ 105 _)) m_25 rfl rfl ts_o7 rfl rfl rfl (ev_iconst (pc' := 61) (x := 1) m_25 rfl rfl rfl (ev_iadd (pc' := 62) m_25 rfl rfl ?_)))))))
        refine tr_ci (pc' := 65) m_25 rfl rfl rfl m_24 rfl rfl rfl rfl rfl rfl rfl (cT_byteAt_ok l2 ((gI x9_s 105 0) + ((1 : Int32))) _ _ (Ok_b h)) (fun x12_ x12_s h => ?_)
        refine tr_cz (pc' := 68) m_25 rfl rfl rfl m_31 rfl rfl rfl rfl rfl (tr_rcv ts_o7 rfl) rfl rfl (cT_takeSign_ok x3_ x12_ _ _ (Ok_b h)) (fun x15_ x15_s h13 h => ?_)
        exact tr_rz m_25 rfl rfl h13 (Ok_s h)
      · replace h := Ok_f c19 h
        refine ev_aload_n (pc' := 46) m_25 rfl rfl rfl (ev_aload_n (pc' := 47) m_25 rfl rfl rfl (ev_iload_n (pc' := 48) m_25 rfl rfl rfl ?_))
        refine tr_cz (pc' := 51) m_25 rfl rfl rfl m_30 rfl rfl rfl rfl rfl (tr_rcv ts_o7 rfl) rfl rfl (cT_takeNumber_ok l2 _ _ (Ok_b h)) (fun x18_ x18_s h16 h => ?_)
        exact tr_rz m_25 rfl rfl h16 (Ok_s h)
    · replace h := Ok_f c23 h
      refine ev_aload_n (pc' := 32) m_25 rfl rfl rfl (ev_aload_n (pc' := 33) m_25 rfl rfl rfl (ev_iload_n (pc' := 34) m_25 rfl rfl rfl ?_))
      refine tr_cz (pc' := 37) m_25 rfl rfl rfl m_28 rfl rfl rfl rfl rfl (tr_rcv ts_o7 rfl) rfl rfl (cT_takeWord_ok l2 _ _ (Ok_b h)) (fun x22_ x22_s h20 h => ?_)
      exact tr_rz m_25 rfl rfl h20 (Ok_s h)
  · replace h := Ok_t c27 h
    refine ev_aload_n (pc' := 17) m_25 rfl rfl rfl (ev_iconst (pc' := 18) (x := 0) m_25 rfl rfl rfl (ev_iload_n (pc' := 19) m_25 rfl rfl rfl (ev_lconst (pc' := 20) (u := 0) m_25 rfl rfl rfl ?_)))
    refine tr_cz (pc' := 23) m_25 rfl rfl rfl m_26 rfl rfl rfl rfl rfl (tr_rcv ts_o7 rfl) rfl rfl (cT_add_ok ((0 : Int32)) l2 ((0 : Int64)) _ _ (Ok_b h)) (fun x26_ x26_s h24 h => ?_)
    exact tr_rz m_25 rfl rfl h24 (Ok_s h)
def cT_part_33_b (kk : Int32 → Int32 → Int32 → ts → Option (ts)) (l3 : Int32) (l4 : Int32) (l5 : Int32) (s : ts) : Option (ts) := (if ((4001 : Int32)) ≤ l5 then some (wI (wI s 106 0 ((0 : Int32))) 107 0 (gA (wI s 106 0 ((0 : Int32))) 9 ((0 : Int32)).toNatClampNeg)) else (if l4 = ((0 : Int32)) then some (wI (wI s 106 0 ((0 : Int32))) 107 0 (gA (wI s 106 0 ((0 : Int32))) 9 ((0 : Int32)).toNatClampNeg)) else (cT_skipBlanks l3 s).bind (fun s2 => (cT_takeToken l3 s2).bind (fun x6 => kk l3 x6.1 (l5 + (1 : Int32)) x6.2))))
def cT_part_33 : Nat → Int32 → Int32 → Int32 → ts → Option (ts)
  | 0, _, _, _, _ => none
  | n + 1, l3, l4, l5, s => cT_part_33_b (cT_part_33 n) l3 l4 l5 s
set_option maxRecDepth 20000 in
theorem cT_part_33_ok {d : Nat} : ∀ (n : Nat) (l3 : Int32) (l4 : Int32) (l5 : Int32) (s : ts) (Q : ts → Prop), Ok (cT_part_33 n l3 l4 l5 s) Q → am_Ev (d + 3) 22 (33, [(0, .ref 7), (1, .ref 6), (3, .int (l3)), (4, .int (l4)), (5, .int (l5))], []) (lay s) (tq_v Q) := by
  intro n
  induction n with
  | zero => intro l3 l4 l5 s Q h; exact Ok_n h
  | succ n ih =>
    intro l3 l4 l5 s Q h
    rw [cT_part_33.eq_2] at h
    unfold cT_part_33_b at h
    refine ev_iload (pc' := 35) m_22 rfl rfl rfl (ev_sipush (pc' := 38) (x := 4001) m_22 rfl rfl rfl ?_)
    refine ev_icmp_ge (t := 66) (e := 41) m_22 rfl rfl rfl (fun c8 => ?_) (fun c8 => ?_)
    · replace h := Ok_t c8 h
      refine ev_aload_n (pc' := 67) m_22 rfl rfl rfl (ev_iconst (pc' := 68) (x := 0) m_22 rfl rfl rfl (tr_pI (pc' := 71) (f := 106) m_22 rfl rfl rfl ts_o7 rfl rfl rfl rfl (ev_aload_n (pc' := 72) m_22 rfl rfl rfl (ev_aload_n (pc' := 73) m_22 rfl rfl rfl (tr_get (pc' := 76) (v := .ref 9) m_22 rfl rfl ts_o7 rfl rfl rfl (ev_iconst (pc' := 77) (x := 0) m_22 rfl rfl rfl (tr_iald (pc' := 78) m_22 rfl rfl rfl rfl rfl ?_)))))))
      refine tr_pI (pc' := 81) (f := 107) m_22 rfl rfl rfl ts_o7 rfl rfl rfl rfl ?_
      exact tr_rv m_22 rfl rfl (Ok_s h)
    · replace h := Ok_f c8 h
      refine ev_iload (pc' := 43) m_22 rfl rfl rfl ?_
      refine ev_if_eq (t := 66) (e := 46) m_22 rfl rfl rfl (fun c7 => ?_) (fun c7 => ?_)
      · replace h := Ok_t c7 h
        refine ev_aload_n (pc' := 67) m_22 rfl rfl rfl (ev_iconst (pc' := 68) (x := 0) m_22 rfl rfl rfl (tr_pI (pc' := 71) (f := 106) m_22 rfl rfl rfl ts_o7 rfl rfl rfl rfl (ev_aload_n (pc' := 72) m_22 rfl rfl rfl (ev_aload_n (pc' := 73) m_22 rfl rfl rfl (tr_get (pc' := 76) (v := .ref 9) m_22 rfl rfl ts_o7 rfl rfl rfl (ev_iconst (pc' := 77) (x := 0) m_22 rfl rfl rfl (tr_iald (pc' := 78) m_22 rfl rfl rfl rfl rfl ?_)))))))
        refine tr_pI (pc' := 81) (f := 107) m_22 rfl rfl rfl ts_o7 rfl rfl rfl rfl ?_
        exact tr_rv m_22 rfl rfl (Ok_s h)
      · replace h := Ok_f c7 h
        refine ev_aload_n (pc' := 47) m_22 rfl rfl rfl (ev_aload_n (pc' := 48) m_22 rfl rfl rfl (ev_iload_n (pc' := 49) m_22 rfl rfl rfl ?_))
        refine tr_cv (pc' := 52) m_22 rfl rfl rfl m_23 rfl rfl rfl rfl (tr_rcv ts_o7 rfl) rfl rfl (cT_skipBlanks_ok l3 _ _ (Ok_b h)) (fun s2 h => ?_)
        refine ev_aload_n (pc' := 53) m_22 rfl rfl rfl (ev_aload_n (pc' := 54) m_22 rfl rfl rfl (ev_iload_n (pc' := 55) m_22 rfl rfl rfl ?_))
        refine tr_cz (pc' := 58) m_22 rfl rfl rfl m_25 rfl rfl rfl rfl rfl (tr_rcv ts_o7 rfl) rfl rfl (cT_takeToken_ok l3 _ _ (Ok_b h)) (fun x6_ x6_s h4 h => ?_)
        refine ev_istore (pc' := 60) m_22 rfl rfl rfl rfl (ev_iinc (pc' := 63) (z := 1) m_22 rfl rfl rfl rfl rfl rfl (ev_goto (pc' := 33) m_22 rfl rfl ?_))
        exact am_Ev.sub (L := [(0, .ref 7), (1, .ref 6), (3, .int (l3)), (4, .int (x6_)), (5, .int (l5 + (1 : Int32)))]) ⟨rfl, rfl, rfl, rfl, rfl, trivial⟩ (ih l3 x6_ (l5 + (1 : Int32)) _ _ h)
def cT_part (l2 : Int32) (s : ts) : Option (ts) := cT_part_33 tm_N (if (4000 : Int32) < l2 then (4000 : Int32) else l2) ((1 : Int32)) ((0 : Int32)) (wI (wI (wI (wI s 108 0 ((0 : Int32))) 109 0 ((-1 : Int32))) 104 0 ((0 : Int32))) 105 0 ((0 : Int32)))
set_option maxRecDepth 20000 in
theorem cT_part_ok {d : Nat} (l2 : Int32) (s : ts) (Q : ts → Prop) (h : Ok (cT_part l2 s) Q) : am_Ev (d + 3) 22 (0, [(0, .ref 7), (1, .ref 6), (2, .int (l2))], []) (lay s) (tq_v Q) := by
  unfold cT_part at h
  refine ev_iload_n (pc' := 1) m_22 rfl rfl rfl (ev_aload_n (pc' := 2) m_22 rfl rfl rfl (tr_alen (pc' := 3) (x := 4000) m_22 rfl rfl rfl rfl rfl rfl (ev_prm (pc' := 6) m_22 rfl rfl rfl rfl rfl rfl rfl (ev_istore_n (pc' := 7) m_22 rfl rfl rfl rfl (ev_aload_n (pc' := 8) m_22 rfl rfl rfl (ev_iconst (pc' := 9) (x := 0) m_22 rfl rfl rfl (tr_pI (pc' := 12) (f := 108) m_22 rfl rfl rfl ts_o7 rfl rfl rfl rfl ?_)))))))
  refine ev_aload_n (pc' := 13) m_22 rfl rfl rfl (ev_iconst (pc' := 14) (x := -1) m_22 rfl rfl rfl (tr_pI (pc' := 17) (f := 109) m_22 rfl rfl rfl ts_o7 rfl rfl rfl rfl (ev_aload_n (pc' := 18) m_22 rfl rfl rfl (ev_iconst (pc' := 19) (x := 0) m_22 rfl rfl rfl (tr_pI (pc' := 22) (f := 104) m_22 rfl rfl rfl ts_o7 rfl rfl rfl rfl (ev_aload_n (pc' := 23) m_22 rfl rfl rfl (ev_iconst (pc' := 24) (x := 0) m_22 rfl rfl rfl ?_)))))))
  refine tr_pI (pc' := 27) (f := 105) m_22 rfl rfl rfl ts_o7 rfl rfl rfl rfl (ev_iconst (pc' := 28) (x := 1) m_22 rfl rfl rfl (ev_istore (pc' := 30) m_22 rfl rfl rfl rfl (ev_iconst (pc' := 31) (x := 0) m_22 rfl rfl rfl (ev_istore (pc' := 33) m_22 rfl rfl rfl rfl ?_))))
  exact am_Ev.sub (L := [(0, .ref 7), (1, .ref 6), (3, .int (if (4000 : Int32) < l2 then (4000 : Int32) else l2)), (4, .int ((1 : Int32))), (5, .int ((0 : Int32)))]) ⟨rfl, rfl, rfl, rfl, rfl, trivial⟩ (cT_part_33_ok tm_N (if (4000 : Int32) < l2 then (4000 : Int32) else l2) ((1 : Int32)) ((0 : Int32)) _ _ h)
