/-! THE METHODS' DATA AND THE CHECK OF THEIR TABLES -/
abbrev MD : Type := MethodName × ByteArray × Option FieldType × List (Nat × Nat × Nat × Nat) × Nat × Nat × Nat × Nat × Nat × Nat
def m_mds0 : List MD := [(⟨"Syntaxspan$Completer", "<init>", "()V"⟩, prog_2_method_1_code, none, [], 2, 411, 57, 410, 0, 0),
  (⟨"java/lang/String", "coder", "()B"⟩, prog_26_method_152_code, (some .byte), [], 1, 722, 66, 720, 721, 0),
  (⟨"java/lang/String", "coder", "()B"⟩, prog_26_method_152_code, (some .byte), [], 1, 722, 66, 720, 721, 0),
  (⟨"java/lang/String", "coder", "()B"⟩, prog_26_method_152_code, (some .byte), [], 1, 722, 66, 720, 721, 0),
  (⟨"java/lang/String", "coder", "()B"⟩, prog_26_method_152_code, (some .byte), [], 1, 722, 66, 720, 721, 0),
  (⟨"java/lang/String", "coder", "()B"⟩, prog_26_method_152_code, (some .byte), [], 1, 722, 66, 720, 721, 0),
  (⟨"java/lang/String", "coder", "()B"⟩, prog_26_method_152_code, (some .byte), [], 1, 722, 66, 720, 721, 0),
  (⟨"java/lang/String", "coder", "()B"⟩, prog_26_method_152_code, (some .byte), [], 1, 722, 66, 720, 721, 0),
  (⟨"java/lang/String", "coder", "()B"⟩, prog_26_method_152_code, (some .byte), [], 1, 722, 66, 720, 721, 0),
  (⟨"java/lang/String", "coder", "()B"⟩, prog_26_method_152_code, (some .byte), [], 1, 722, 66, 720, 721, 0),
  (⟨"Syntaxspan$Desk", "<init>", "()V"⟩, prog_3_method_1_code, none, [], 2, 90, 48, 89, 0, 0),
  (⟨"Syntaxspan$Desk", "refresh", "()V"⟩, prog_3_method_2_code, none, [], 1, 797, 48, 795, 796, 0),
  (⟨"Syntaxspan$Desk", "bindFile", "(I)V"⟩, prog_3_method_3_code, none, [], 1, 1200, 48, 1199, 20, 1),
  (⟨"Syntaxspan$Desk", "bindParams", "(II)V"⟩, prog_3_method_4_code, none, [], 1, 1225, 48, 1224, 21, 2),
  (⟨"Syntaxspan$Desk", "functionFor", "(II)I"⟩, prog_3_method_5_code, (some .int), [], 1, 1229, 48, 1228, 22, 2),
  (⟨"Syntaxspan$Desk", "firstFunction", "(II)I"⟩, prog_3_method_6_code, (some .int), [], 1, 1233, 48, 1232, 23, 2),
  (⟨"Syntaxspan$Desk", "usedFile", "(II)I"⟩, prog_3_method_7_code, (some .int), [], 1, 1242, 48, 1240, 1241, 2),
  (⟨"Syntaxspan$Desk", "sameText", "(II)Z"⟩, prog_3_method_8_code, (some .boolean), [], 1, 1237, 48, 1235, 1236, 2),
  (⟨"Syntaxspan$Desk", "isFunction", "(I)Z"⟩, prog_3_method_9_code, (some .boolean), [], 1, 1316, 48, 1314, 1315, 1),
  (⟨"Syntaxspan$Desk", "paramsOf", "(I)I"⟩, prog_3_method_10_code, (some .int), [], 1, 1424, 48, 1422, 1423, 1),
  (⟨"Syntaxspan$Lines", "<init>", "()V"⟩, prog_4_method_1_code, none, [], 2, 96, 49, 95, 0, 0),
  (⟨"Syntaxspan$Lines", "size", "(I)I"⟩, prog_4_method_2_code, (some .int), [], 1, 606, 49, 604, 605, 1),
  (⟨"Syntaxspan$Lines", "sign", "(II)C"⟩, prog_4_method_3_code, (some .char), [], 1, 667, 49, 665, 666, 2),
  (⟨"Syntaxspan$Lines", "put", "(IIC)V"⟩, prog_4_method_4_code, none, [], 1, 640, 49, 638, 639, 3),
  (⟨"Syntaxspan$Lines", "take", "(II)C"⟩, prog_4_method_5_code, (some .char), [], 1, 683, 49, 681, 682, 2),
  (⟨"Syntaxspan$Lines", "wipe", "(I)V"⟩, prog_4_method_6_code, none, [], 1, 770, 49, 768, 769, 1),
  (⟨"java/lang/String", "coder", "()B"⟩, prog_26_method_152_code, (some .byte), [], 1, 722, 66, 720, 721, 0),
  (⟨"Syntaxspan$Lines", "copyRow", "(LSyntaxspan$Lines;II)V"⟩, prog_4_method_8_code, none, [], 1, 789, 49, 787, 788, 3),
  (⟨"Syntaxspan$Lines", "copyFrom", "(LSyntaxspan$Lines;)V"⟩, prog_4_method_9_code, none, [], 1, 1347, 49, 1345, 1346, 1),
  (⟨"Syntaxspan$Lines", "alike", "(LSyntaxspan$Lines;I)Z"⟩, prog_4_method_10_code, (some .boolean), [], 1, 784, 49, 782, 783, 2),
  (⟨"java/lang/String", "coder", "()B"⟩, prog_26_method_152_code, (some .byte), [], 1, 722, 66, 720, 721, 0),
  (⟨"java/lang/String", "coder", "()B"⟩, prog_26_method_152_code, (some .byte), [], 1, 722, 66, 720, 721, 0),
  (⟨"java/lang/String", "coder", "()B"⟩, prog_26_method_152_code, (some .byte), [], 1, 722, 66, 720, 721, 0),
  (⟨"Syntaxspan$Plan", "<init>", "()V"⟩, prog_5_method_1_code, none, [], 2, 431, 58, 430, 0, 0),
  (⟨"Syntaxspan$Plan", "disturb", "()V"⟩, prog_5_method_2_code, none, [], 1, 671, 58, 669, 670, 0),
  (⟨"java/lang/String", "coder", "()B"⟩, prog_26_method_152_code, (some .byte), [], 1, 722, 66, 720, 721, 0),
  (⟨"java/lang/String", "coder", "()B"⟩, prog_26_method_152_code, (some .byte), [], 1, 722, 66, 720, 721, 0),
  (⟨"java/lang/String", "coder", "()B"⟩, prog_26_method_152_code, (some .byte), [], 1, 722, 66, 720, 721, 0),
  (⟨"java/lang/String", "coder", "()B"⟩, prog_26_method_152_code, (some .byte), [], 1, 722, 66, 720, 721, 0),
  (⟨"java/lang/String", "coder", "()B"⟩, prog_26_method_152_code, (some .byte), [], 1, 722, 66, 720, 721, 0)]
def m_mds1 : List MD := [(⟨"java/lang/String", "coder", "()B"⟩, prog_26_method_152_code, (some .byte), [], 1, 722, 66, 720, 721, 0),
  (⟨"java/lang/String", "coder", "()B"⟩, prog_26_method_152_code, (some .byte), [], 1, 722, 66, 720, 721, 0),
  (⟨"java/lang/String", "coder", "()B"⟩, prog_26_method_152_code, (some .byte), [], 1, 722, 66, 720, 721, 0),
  (⟨"java/lang/String", "coder", "()B"⟩, prog_26_method_152_code, (some .byte), [], 1, 722, 66, 720, 721, 0),
  (⟨"java/lang/String", "coder", "()B"⟩, prog_26_method_152_code, (some .byte), [], 1, 722, 66, 720, 721, 0),
  (⟨"java/lang/String", "coder", "()B"⟩, prog_26_method_152_code, (some .byte), [], 1, 722, 66, 720, 721, 0),
  (⟨"java/lang/String", "coder", "()B"⟩, prog_26_method_152_code, (some .byte), [], 1, 722, 66, 720, 721, 0),
  (⟨"java/lang/String", "coder", "()B"⟩, prog_26_method_152_code, (some .byte), [], 1, 722, 66, 720, 721, 0),
  (⟨"java/lang/String", "coder", "()B"⟩, prog_26_method_152_code, (some .byte), [], 1, 722, 66, 720, 721, 0),
  (⟨"java/lang/String", "coder", "()B"⟩, prog_26_method_152_code, (some .byte), [], 1, 722, 66, 720, 721, 0),
  (⟨"java/lang/String", "coder", "()B"⟩, prog_26_method_152_code, (some .byte), [], 1, 722, 66, 720, 721, 0),
  (⟨"java/lang/String", "coder", "()B"⟩, prog_26_method_152_code, (some .byte), [], 1, 722, 66, 720, 721, 0),
  (⟨"java/lang/String", "coder", "()B"⟩, prog_26_method_152_code, (some .byte), [], 1, 722, 66, 720, 721, 0),
  (⟨"java/lang/String", "coder", "()B"⟩, prog_26_method_152_code, (some .byte), [], 1, 722, 66, 720, 721, 0),
  (⟨"java/lang/String", "coder", "()B"⟩, prog_26_method_152_code, (some .byte), [], 1, 722, 66, 720, 721, 0),
  (⟨"java/lang/String", "coder", "()B"⟩, prog_26_method_152_code, (some .byte), [], 1, 722, 66, 720, 721, 0),
  (⟨"java/lang/String", "coder", "()B"⟩, prog_26_method_152_code, (some .byte), [], 1, 722, 66, 720, 721, 0),
  (⟨"Syntaxspan$Reader", "<init>", "(LSyntaxspan$Tree;)V"⟩, prog_6_method_1_code, none, [], 2, 249, 53, 248, 0, 1),
  (⟨"Syntaxspan$Reader", "read", "([IILSyntaxspan$Tree;)V"⟩, prog_6_method_2_code, none, [], 1, 1103, 53, 1101, 1102, 3),
  (⟨"Syntaxspan$Reader", "kind", "(I)I"⟩, prog_6_method_3_code, (some .int), [], 1, 1117, 53, 1116, 7, 1),
  (⟨"Syntaxspan$Reader", "eat", "(I)Z"⟩, prog_6_method_4_code, (some .boolean), [], 1, 1145, 53, 1144, 9, 1),
  (⟨"Syntaxspan$Reader", "beginsItem", "(I)Z"⟩, prog_6_method_5_code, (some .boolean), [], 0, 1120, 53, 1119, 0, 1),
  (⟨"Syntaxspan$Reader", "item", "()V"⟩, prog_6_method_6_code, none, [], 1, 1177, 53, 1176, 17, 0),
  (⟨"Syntaxspan$Reader", "useItem", "()Z"⟩, prog_6_method_7_code, (some .boolean), [], 1, 1181, 53, 1180, 18, 0),
  (⟨"Syntaxspan$Reader", "header", "()Z"⟩, prog_6_method_8_code, (some .boolean), [], 1, 1189, 53, 1188, 19, 0),
  (⟨"Syntaxspan$Reader", "openBlock", "(II)V"⟩, prog_6_method_9_code, none, [], 1, 1149, 53, 1148, 10, 2),
  (⟨"Syntaxspan$Reader", "closeBlock", "(Z)V"⟩, prog_6_method_10_code, none, [], 1, 1124, 53, 1123, 8, 1),
  (⟨"Syntaxspan$Reader", "skip", "()V"⟩, prog_6_method_11_code, none, [], 1, 1153, 53, 1152, 11, 0),
  (⟨"Syntaxspan$Reader", "statement", "()V"⟩, prog_6_method_12_code, none, [], 1, 1113, 53, 1112, 6, 0),
  (⟨"Syntaxspan$Reader", "expr", "(Z)Z"⟩, prog_6_method_13_code, (some .boolean), [], 1, 1157, 53, 1156, 12, 1),
  (⟨"Syntaxspan$Reader", "push", "(II)V"⟩, prog_6_method_14_code, none, [], 1, 1161, 53, 1160, 13, 2),
  (⟨"Syntaxspan$Reader", "operand", "()I"⟩, prog_6_method_15_code, (some .int), [], 1, 1165, 53, 1164, 14, 0),
  (⟨"Syntaxspan$Reader", "behind", "()I"⟩, prog_6_method_16_code, (some .int), [], 1, 1169, 53, 1168, 15, 0),
  (⟨"Syntaxspan$Reader", "closeExpr", "(II)I"⟩, prog_6_method_17_code, (some .int), [], 1, 1173, 53, 1172, 16, 2),
  (⟨"Syntaxspan$Repair", "<init>", "()V"⟩, prog_7_method_1_code, none, [], 2, 363, 55, 362, 0, 0),
  (⟨"java/lang/String", "coder", "()B"⟩, prog_26_method_152_code, (some .byte), [], 1, 722, 66, 720, 721, 0),
  (⟨"java/lang/String", "coder", "()B"⟩, prog_26_method_152_code, (some .byte), [], 1, 722, 66, 720, 721, 0),
  (⟨"java/lang/String", "coder", "()B"⟩, prog_26_method_152_code, (some .byte), [], 1, 722, 66, 720, 721, 0),
  (⟨"java/lang/String", "coder", "()B"⟩, prog_26_method_152_code, (some .byte), [], 1, 722, 66, 720, 721, 0),
  (⟨"java/lang/String", "coder", "()B"⟩, prog_26_method_152_code, (some .byte), [], 1, 722, 66, 720, 721, 0)]
def m_mds2 : List MD := [(⟨"Syntaxspan$Runner", "<init>", "()V"⟩, prog_8_method_1_code, none, [], 2, 373, 56, 372, 0, 0),
  (⟨"Syntaxspan$Runner", "give", "(LSyntaxspan$Desk;IJJ)J"⟩, prog_8_method_2_code, (some .long), [], 1, 1457, 56, 1455, 1456, 4),
  (⟨"Syntaxspan$Runner", "push", "(J)V"⟩, prog_8_method_3_code, none, [], 1, 1461, 56, 1460, 35, 1),
  (⟨"Syntaxspan$Runner", "pop", "()J"⟩, prog_8_method_4_code, (some .long), [], 1, 1502, 56, 1501, 42, 0),
  (⟨"Syntaxspan$Runner", "enter", "(LSyntaxspan$Desk;II)V"⟩, prog_8_method_5_code, none, [], 1, 1465, 56, 1464, 36, 3),
  (⟨"Syntaxspan$Runner", "leave", "(J)V"⟩, prog_8_method_6_code, none, [], 1, 1513, 56, 1512, 44, 1),
  (⟨"Syntaxspan$Runner", "whole", "(LSyntaxspan$Desk;I)V"⟩, prog_8_method_7_code, none, [], 1, 1509, 56, 1508, 43, 2),
  (⟨"Syntaxspan$Runner", "part", "(LSyntaxspan$Desk;I)V"⟩, prog_8_method_8_code, none, [], 1, 1477, 56, 1476, 37, 2),
  (⟨"Syntaxspan$Runner", "pair", "(IJJ)J"⟩, prog_8_method_9_code, (some .long), [], 0, 1505, 56, 1504, 0, 3),
  (⟨"Syntaxspan$Runner", "number", "(LSyntaxspan$Desk;I)J"⟩, prog_8_method_10_code, (some .long), [], 1, 1483, 56, 1482, 38, 2),
  (⟨"Syntaxspan$Runner", "slotAt", "(I)I"⟩, prog_8_method_11_code, (some .int), [], 1, 1493, 56, 1492, 40, 1),
  (⟨"Syntaxspan$Runner", "read", "(I)J"⟩, prog_8_method_12_code, (some .long), [], 1, 1489, 56, 1488, 39, 1),
  (⟨"Syntaxspan$Runner", "store", "(IJ)V"⟩, prog_8_method_13_code, none, [], 1, 1517, 56, 1516, 45, 2),
  (⟨"Syntaxspan$Runner", "call", "(LSyntaxspan$Desk;II)V"⟩, prog_8_method_14_code, none, [], 1, 1498, 56, 1497, 41, 3),
  (⟨"java/lang/String", "coder", "()B"⟩, prog_26_method_152_code, (some .byte), [], 1, 722, 66, 720, 721, 0),
  (⟨"java/lang/String", "coder", "()B"⟩, prog_26_method_152_code, (some .byte), [], 1, 722, 66, 720, 721, 0),
  (⟨"java/lang/String", "coder", "()B"⟩, prog_26_method_152_code, (some .byte), [], 1, 722, 66, 720, 721, 0),
  (⟨"java/lang/String", "coder", "()B"⟩, prog_26_method_152_code, (some .byte), [], 1, 722, 66, 720, 721, 0),
  (⟨"java/lang/String", "coder", "()B"⟩, prog_26_method_152_code, (some .byte), [], 1, 722, 66, 720, 721, 0),
  (⟨"Syntaxspan$Scope", "<init>", "()V"⟩, prog_9_method_1_code, none, [], 2, 119, 50, 118, 0, 0),
  (⟨"Syntaxspan$Scope", "begin", "()V"⟩, prog_9_method_2_code, none, [], 1, 1204, 50, 1202, 1203, 0),
  (⟨"Syntaxspan$Scope", "step", "(I)V"⟩, prog_9_method_3_code, none, [], 1, 1214, 50, 1212, 1213, 1),
  (⟨"Syntaxspan$Scope", "find", "(LSyntaxspan$Desk;II)I"⟩, prog_9_method_4_code, (some .int), [], 1, 1250, 50, 1248, 1249, 3),
  (⟨"Syntaxspan$Tokens", "<init>", "()V"⟩, prog_10_method_1_code, none, [], 2, 143, 51, 142, 0, 0),
  (⟨"Syntaxspan$Tokens", "kind", "(I)I"⟩, prog_10_method_2_code, (some .int), [], 1, 1246, 51, 1244, 1245, 1),
  (⟨"java/lang/String", "coder", "()B"⟩, prog_26_method_152_code, (some .byte), [], 1, 722, 66, 720, 721, 0),
  (⟨"Syntaxspan$Tokens", "told", "(I)I"⟩, prog_10_method_4_code, (some .int), [], 1, 1267, 51, 1265, 1266, 1),
  (⟨"Syntaxspan$Tokens", "owner", "(II)I"⟩, prog_10_method_5_code, (some .int), [], 1, 1308, 51, 1306, 1307, 2),
  (⟨"Syntaxspan$Tokens", "endsInside", "(I)Z"⟩, prog_10_method_6_code, (some .boolean), [], 1, 656, 51, 654, 655, 1),
  (⟨"Syntaxspan$Tokens", "afterEdit", "(LSyntaxspan$Lines;II)I"⟩, prog_10_method_7_code, (some .int), [], 1, 652, 51, 650, 651, 3),
  (⟨"Syntaxspan$Tokens", "endOf", "(LSyntaxspan$Lines;IZ)Z"⟩, prog_10_method_8_code, (some .boolean), [], 0, 659, 51, 658, 0, 3),
  (⟨"Syntaxspan$Tokens", "turns", "(LSyntaxspan$Lines;IIZ)Z"⟩, prog_10_method_9_code, (some .boolean), [], 0, 663, 51, 662, 0, 4),
  (⟨"Syntaxspan$Tokens", "gather", "(LSyntaxspan$Lines;I)V"⟩, prog_10_method_10_code, none, [], 1, 801, 51, 799, 800, 2),
  (⟨"Syntaxspan$Tokens", "gatherLine", "(LSyntaxspan$Lines;IIZ)Z"⟩, prog_10_method_11_code, (some .boolean), [], 1, 805, 51, 804, 3, 4),
  (⟨"Syntaxspan$Tokens", "add", "(IIII)V"⟩, prog_10_method_12_code, none, [], 1, 833, 51, 832, 4, 4),
  (⟨"Syntaxspan$Tokens", "spanAt", "(LSyntaxspan$Lines;II)I"⟩, prog_10_method_13_code, (some .int), [], 0, 808, 51, 807, 0, 3),
  (⟨"Syntaxspan$Tokens", "classAt", "(LSyntaxspan$Lines;III)I"⟩, prog_10_method_14_code, (some .int), [], 0, 817, 51, 816, 0, 4),
  (⟨"Syntaxspan$Tokens", "pairBrackets", "()V"⟩, prog_10_method_15_code, none, [], 1, 1099, 51, 1098, 5, 0),
  (⟨"java/lang/String", "coder", "()B"⟩, prog_26_method_152_code, (some .byte), [], 1, 722, 66, 720, 721, 0),
  (⟨"Syntaxspan$Tree", "<init>", "()V"⟩, prog_11_method_1_code, none, [], 2, 186, 52, 185, 0, 0)]
def m_mds3 : List MD := [(⟨"Syntaxspan$Tree", "begin", "()V"⟩, prog_11_method_2_code, none, [], 1, 1109, 52, 1107, 1108, 0),
  (⟨"Syntaxspan$Tree", "emit", "(III)V"⟩, prog_11_method_3_code, none, [], 1, 1132, 52, 1130, 1131, 3),
  (⟨"Syntaxspan$Tree", "aim", "(II)V"⟩, prog_11_method_4_code, none, [], 1, 1140, 52, 1138, 1139, 2),
  (⟨"Syntaxspan$Tree", "tell", "(III)V"⟩, prog_11_method_5_code, none, [], 1, 1128, 52, 1126, 1127, 3),
  (⟨"java/lang/String", "coder", "()B"⟩, prog_26_method_152_code, (some .byte), [], 1, 722, 66, 720, 721, 0),
  (⟨"Syntaxspan$Tree", "addFunction", "(II)V"⟩, prog_11_method_7_code, none, [], 1, 1193, 52, 1191, 1192, 2),
  (⟨"Syntaxspan$Tree", "endFunction", "(I)V"⟩, prog_11_method_8_code, none, [], 1, 1136, 52, 1134, 1135, 1),
  (⟨"Syntaxspan$Tree", "addUse", "(I)V"⟩, prog_11_method_9_code, none, [], 1, 1185, 52, 1183, 1184, 1),
  (⟨"Syntaxspan$Tree", "functionOf", "(I)I"⟩, prog_11_method_10_code, (some .int), [], 1, 1320, 52, 1318, 1319, 1),
  (⟨"Syntaxspan$Types", "<init>", "()V"⟩, prog_12_method_1_code, none, [], 2, 337, 54, 336, 0, 0),
  (⟨"Syntaxspan$Types", "findAll", "(LSyntaxspan$Desk;)V"⟩, prog_12_method_2_code, none, [], 1, 1400, 54, 1398, 1399, 1),
  (⟨"Syntaxspan$Types", "whole", "(LSyntaxspan$Desk;III)V"⟩, prog_12_method_3_code, none, [], 1, 1441, 54, 1440, 34, 4),
  (⟨"Syntaxspan$Types", "part", "(LSyntaxspan$Desk;II)V"⟩, prog_12_method_4_code, none, [], 1, 1406, 54, 1405, 28, 3),
  (⟨"Syntaxspan$Types", "call", "(LSyntaxspan$Desk;II)V"⟩, prog_12_method_5_code, none, [], 1, 1419, 54, 1418, 30, 3),
  (⟨"Syntaxspan$Types", "push", "(II)V"⟩, prog_12_method_6_code, none, [], 1, 1414, 54, 1413, 29, 2),
  (⟨"Syntaxspan$Types", "slotOf", "(LSyntaxspan$Desk;I)I"⟩, prog_12_method_7_code, (some .int), [], 0, 1410, 54, 1409, 0, 2),
  (⟨"Syntaxspan$Types", "alike", "(III)V"⟩, prog_12_method_8_code, none, [], 1, 1433, 54, 1432, 32, 3),
  (⟨"Syntaxspan$Types", "tell", "(I)V"⟩, prog_12_method_9_code, none, [], 1, 1429, 54, 1428, 31, 1),
  (⟨"Syntaxspan$Types", "headOf", "(I)I"⟩, prog_12_method_10_code, (some .int), [], 1, 1437, 54, 1436, 33, 1),
  (⟨"Syntaxspan$Types", "typeAt", "(I)I"⟩, prog_12_method_11_code, (some .int), [], 1, 1449, 54, 1447, 1448, 1),
  (⟨"Syntaxspan", "<init>", "()V"⟩, prog_1_method_1_code, none, [], 2, 82, 47, 81, 0, 0),
  (⟨"Syntaxspan", "insert", "(IIIC)I"⟩, prog_1_method_2_code, (some .int), [], 1, 534, 47, 532, 533, 4),
  (⟨"Syntaxspan", "erase", "(III)C"⟩, prog_1_method_3_code, (some .char), [], 1, 675, 47, 673, 674, 3),
  (⟨"Syntaxspan", "paste", "(III)I"⟩, prog_1_method_4_code, (some .int), [], 1, 687, 47, 685, 686, 3),
  (⟨"Syntaxspan", "clear", "(II)I"⟩, prog_1_method_5_code, (some .int), [], 1, 766, 47, 764, 765, 2),
  (⟨"Syntaxspan", "save", "(I)I"⟩, prog_1_method_6_code, (some .int), [], 1, 774, 47, 772, 773, 1),
  (⟨"Syntaxspan", "back", "(I)I"⟩, prog_1_method_7_code, (some .int), [], 1, 793, 47, 791, 792, 1),
  (⟨"Syntaxspan", "charAt", "(III)C"⟩, prog_1_method_8_code, (some .char), [], 1, 1299, 47, 1297, 1298, 3),
  (⟨"Syntaxspan", "length", "(II)I"⟩, prog_1_method_9_code, (some .int), [], 1, 1295, 47, 1293, 1294, 2),
  (⟨"Syntaxspan", "relexed", "()I"⟩, prog_1_method_10_code, (some .int), [], 1, 1282, 47, 1280, 1281, 0),
  (⟨"Syntaxspan", "tokens", "(I)I"⟩, prog_1_method_11_code, (some .int), [], 1, 1351, 47, 1349, 1350, 1),
  (⟨"Syntaxspan", "token", "(II)I"⟩, prog_1_method_12_code, (some .int), [], 1, 1255, 47, 1253, 1254, 2),
  (⟨"Syntaxspan", "tokenAnew", "(II)I"⟩, prog_1_method_13_code, (some .int), [], 1, 1339, 47, 1337, 1338, 2),
  (⟨"Syntaxspan", "colour", "(III)I"⟩, prog_1_method_14_code, (some .int), [], 1, 1304, 47, 1302, 1303, 3),
  (⟨"java/lang/String", "coder", "()B"⟩, prog_26_method_152_code, (some .byte), [], 1, 722, 66, 720, 721, 0),
  (⟨"java/lang/String", "coder", "()B"⟩, prog_26_method_152_code, (some .byte), [], 1, 722, 66, 720, 721, 0),
  (⟨"Syntaxspan", "errors", "(I)I"⟩, prog_1_method_17_code, (some .int), [], 1, 1361, 47, 1359, 1360, 1),
  (⟨"java/lang/String", "coder", "()B"⟩, prog_26_method_152_code, (some .byte), [], 1, 722, 66, 720, 721, 0),
  (⟨"java/lang/String", "coder", "()B"⟩, prog_26_method_152_code, (some .byte), [], 1, 722, 66, 720, 721, 0),
  (⟨"java/lang/String", "coder", "()B"⟩, prog_26_method_152_code, (some .byte), [], 1, 722, 66, 720, 721, 0)]
def m_mds4 : List MD := [(⟨"java/lang/String", "coder", "()B"⟩, prog_26_method_152_code, (some .byte), [], 1, 722, 66, 720, 721, 0),
  (⟨"Syntaxspan", "functions", "(I)I"⟩, prog_1_method_22_code, (some .int), [], 1, 1365, 47, 1363, 1364, 1),
  (⟨"Syntaxspan", "functionAt", "(II)I"⟩, prog_1_method_23_code, (some .int), [], 1, 1369, 47, 1367, 1368, 2),
  (⟨"Syntaxspan", "binding", "(II)I"⟩, prog_1_method_24_code, (some .int), [], 1, 1271, 47, 1269, 1270, 2),
  (⟨"Syntaxspan", "bindingAnew", "(II)I"⟩, prog_1_method_25_code, (some .int), [], 1, 1380, 47, 1378, 1379, 2),
  (⟨"Syntaxspan", "typeOf", "(II)I"⟩, prog_1_method_26_code, (some .int), [], 1, 1445, 47, 1443, 1444, 2),
  (⟨"Syntaxspan", "typeErrors", "()I"⟩, prog_1_method_27_code, (some .int), [], 1, 1396, 47, 1394, 1395, 0),
  (⟨"java/lang/String", "coder", "()B"⟩, prog_26_method_152_code, (some .byte), [], 1, 722, 66, 720, 721, 0),
  (⟨"java/lang/String", "coder", "()B"⟩, prog_26_method_152_code, (some .byte), [], 1, 722, 66, 720, 721, 0),
  (⟨"java/lang/String", "coder", "()B"⟩, prog_26_method_152_code, (some .byte), [], 1, 722, 66, 720, 721, 0),
  (⟨"java/lang/String", "coder", "()B"⟩, prog_26_method_152_code, (some .byte), [], 1, 722, 66, 720, 721, 0),
  (⟨"java/lang/String", "coder", "()B"⟩, prog_26_method_152_code, (some .byte), [], 1, 722, 66, 720, 721, 0),
  (⟨"java/lang/String", "coder", "()B"⟩, prog_26_method_152_code, (some .byte), [], 1, 722, 66, 720, 721, 0),
  (⟨"java/lang/String", "coder", "()B"⟩, prog_26_method_152_code, (some .byte), [], 1, 722, 66, 720, 721, 0),
  (⟨"java/lang/String", "coder", "()B"⟩, prog_26_method_152_code, (some .byte), [], 1, 722, 66, 720, 721, 0),
  (⟨"java/lang/String", "coder", "()B"⟩, prog_26_method_152_code, (some .byte), [], 1, 722, 66, 720, 721, 0),
  (⟨"java/lang/String", "coder", "()B"⟩, prog_26_method_152_code, (some .byte), [], 1, 722, 66, 720, 721, 0),
  (⟨"java/lang/String", "coder", "()B"⟩, prog_26_method_152_code, (some .byte), [], 1, 722, 66, 720, 721, 0),
  (⟨"Syntaxspan", "run", "(IIII)J"⟩, prog_1_method_39_code, (some .long), [], 1, 1453, 47, 1451, 1452, 4),
  (⟨"Syntaxspan", "needFile", "(I)V"⟩, prog_1_method_40_code, none, [], 0, 777, 47, 776, 0, 1),
  (⟨"Syntaxspan", "needLine", "(II)V"⟩, prog_1_method_41_code, none, [], 0, 537, 47, 536, 0, 2),
  (⟨"Syntaxspan", "needColumn", "(III)V"⟩, prog_1_method_42_code, none, [], 1, 679, 47, 678, 2, 3),
  (⟨"Syntaxspan", "needToken", "(II)V"⟩, prog_1_method_43_code, none, [], 1, 1259, 47, 1258, 24, 2),
  (⟨"java/lang/String", "coder", "()B"⟩, prog_26_method_152_code, (some .byte), [], 1, 722, 66, 720, 721, 0),
  (⟨"java/lang/String", "coder", "()B"⟩, prog_26_method_152_code, (some .byte), [], 1, 722, 66, 720, 721, 0),
  (⟨"Syntaxspan", "needFunction", "(II)V"⟩, prog_1_method_46_code, none, [], 1, 1373, 47, 1372, 27, 2),
  (⟨"java/lang/String", "coder", "()B"⟩, prog_26_method_152_code, (some .byte), [], 1, 722, 66, 720, 721, 0),
  (⟨"Syntaxspan", "changed", "(IIZ)V"⟩, prog_1_method_48_code, none, [], 1, 648, 47, 647, 1, 3),
  (⟨"Syntaxspan", "fresh", "()LSyntaxspan$Desk;"⟩, prog_1_method_49_code, (some (.object "Syntaxspan$Desk")), [], 1, 1263, 47, 1262, 25, 0),
  (⟨"Syntaxspan", "anew", "()V"⟩, prog_1_method_50_code, none, [], 1, 1343, 47, 1342, 26, 0),
  (⟨"Syntaxspan", "copyFile", "(LSyntaxspan$Lines;LSyntaxspan$Lines;I)I"⟩, prog_1_method_51_code, (some .int), [], 0, 780, 47, 779, 0, 3),
  (⟨"Syntaxspan", "toldId", "(I)I"⟩, prog_1_method_52_code, (some .int), [], 0, 1274, 47, 1273, 0, 1),
  (⟨"Syntaxspan", "colourOf", "(LSyntaxspan$Desk;II)I"⟩, prog_1_method_53_code, (some .int), [], 0, 1311, 47, 1310, 0, 3),
  (⟨"Syntaxspan", "fragmentText", "(I)Ljava/lang/String;"⟩, prog_1_method_54_code, (some (.object "java/lang/String")), [], 0, 690, 47, 689, 0, 1),
  (⟨"Syntaxspan", "kindOfSign", "(C)I"⟩, prog_1_method_56_code, (some .int), [], 0, 827, 47, 826, 0, 1),
  (⟨"Syntaxspan", "kindOfWord", "([CII)I"⟩, prog_1_method_55_code, (some .int), [], 0, 820, 47, 819, 0, 3),
  (⟨"Syntaxspan", "isLetter", "(C)Z"⟩, prog_1_method_57_code, (some .boolean), [], 0, 811, 47, 810, 0, 1),
  (⟨"Syntaxspan", "isDigit", "(C)Z"⟩, prog_1_method_58_code, (some .boolean), [], 0, 814, 47, 813, 0, 1),
  (⟨"Syntaxspan", "opOf", "(I)I"⟩, prog_1_method_59_code, (some .int), [], 0, 1207, 47, 1206, 0, 1),
  (⟨"Syntaxspan", "tokenOf", "(I)I"⟩, prog_1_method_60_code, (some .int), [], 0, 1210, 47, 1209, 0, 1)]
def m_mds5 : List MD := [(⟨"Syntaxspan", "extraOf", "(I)I"⟩, prog_1_method_61_code, (some .int), [], 0, 1220, 47, 1219, 0, 1),
  (⟨"SyntaxspanLaw", "charAt", "([JII)I"⟩, method_2_code, (some .int), [], 0, 523, 46, 522, 0, 3),
  (⟨"SyntaxspanLaw", "sets", "([JIII)V"⟩, method_3_code, none, [], 0, 1277, 46, 1276, 0, 4),
  (⟨"SyntaxspanLaw", "isIn", "(III)Z"⟩, method_4_code, (some .boolean), [], 0, 1326, 46, 1325, 0, 3),
  (⟨"SyntaxspanLaw", "endsInside", "([JIIZ)Z"⟩, method_5_code, (some .boolean), [], 0, 520, 46, 519, 0, 4),
  (⟨"SyntaxspanLaw", "token", "([JIII)I"⟩, method_6_code, (some .int), [], 0, 1323, 46, 1322, 0, 4),
  (⟨"SyntaxspanLaw", "isFile", "(LSyntaxspan;I[J[II)Z"⟩, method_7_code, (some .boolean), [], 0, 1291, 46, 1290, 0, 5),
  (⟨"SyntaxspanLaw", "otherwise", "([J[I[J[II)I"⟩, method_9_code, (some .int), [], 0, 1288, 46, 1287, 0, 5),
  (⟨"SyntaxspanLaw", "relexed", "([J[IIII)I"⟩, method_10_code, (some .int), [], 0, 1285, 46, 1284, 0, 5),
  (⟨"SyntaxspanLaw", "modes", "([J[II)I"⟩, method_11_code, (some .int), [], 0, 517, 46, 516, 0, 3),
  (⟨"SyntaxspanLaw", "tokens", "(I)I"⟩, method_13_code, (some .int), [], 0, 1357, 46, 1356, 0, 1),
  (⟨"SyntaxspanLaw", "isBound", "(LSyntaxspan;II)Z"⟩, method_14_code, (some .boolean), [], 0, 1376, 46, 1375, 0, 3),
  (⟨"SyntaxspanLaw", "types", "([I[III)V"⟩, method_15_code, none, [], 0, 1389, 46, 1388, 0, 4),
  (⟨"SyntaxspanLaw", "makesInt", "([I[II)V"⟩, method_16_code, none, [], 0, 1386, 46, 1385, 0, 3),
  (⟨"SyntaxspanLaw", "results", "([I[II)V"⟩, method_17_code, none, [], 0, 1392, 46, 1391, 0, 3),
  (⟨"SyntaxspanLaw", "isNamed", "(LSyntaxspan;[I[I[I[II)Z"⟩, method_18_code, (some .boolean), [], 0, 1383, 46, 1382, 0, 6),
  (⟨"java/lang/String", "coder", "()B"⟩, prog_26_method_152_code, (some .byte), [], 1, 722, 66, 720, 721, 0),
  (⟨"java/lang/String", "coder", "()B"⟩, prog_26_method_152_code, (some .byte), [], 1, 722, 66, 720, 721, 0),
  (⟨"java/lang/String", "coder", "()B"⟩, prog_26_method_152_code, (some .byte), [], 1, 722, 66, 720, 721, 0),
  (⟨"java/lang/String", "coder", "()B"⟩, prog_26_method_152_code, (some .byte), [], 1, 722, 66, 720, 721, 0),
  (⟨"java/lang/String", "coder", "()B"⟩, prog_26_method_152_code, (some .byte), [], 1, 722, 66, 720, 721, 0),
  (⟨"java/lang/String", "coder", "()B"⟩, prog_26_method_152_code, (some .byte), [], 1, 722, 66, 720, 721, 0),
  (⟨"java/lang/String", "coder", "()B"⟩, prog_26_method_152_code, (some .byte), [], 1, 722, 66, 720, 721, 0),
  (⟨"java/lang/String", "coder", "()B"⟩, prog_26_method_152_code, (some .byte), [], 1, 722, 66, 720, 721, 0),
  (⟨"java/lang/String", "coder", "()B"⟩, prog_26_method_152_code, (some .byte), [], 1, 722, 66, 720, 721, 0),
  (⟨"java/lang/String", "coder", "()B"⟩, prog_26_method_152_code, (some .byte), [], 1, 722, 66, 720, 721, 0),
  (⟨"java/lang/String", "coder", "()B"⟩, prog_26_method_152_code, (some .byte), [], 1, 722, 66, 720, 721, 0),
  (⟨"java/lang/String", "coder", "()B"⟩, prog_26_method_152_code, (some .byte), [], 1, 722, 66, 720, 721, 0),
  (⟨"java/lang/String", "coder", "()B"⟩, prog_26_method_152_code, (some .byte), [], 1, 722, 66, 720, 721, 0),
  (⟨"java/lang/String", "coder", "()B"⟩, prog_26_method_152_code, (some .byte), [], 1, 722, 66, 720, 721, 0),
  (⟨"java/lang/String", "coder", "()B"⟩, prog_26_method_152_code, (some .byte), [], 1, 722, 66, 720, 721, 0),
  (⟨"java/lang/String", "coder", "()B"⟩, prog_26_method_152_code, (some .byte), [], 1, 722, 66, 720, 721, 0),
  (⟨"java/lang/String", "coder", "()B"⟩, prog_26_method_152_code, (some .byte), [], 1, 722, 66, 720, 721, 0),
  (⟨"java/lang/String", "coder", "()B"⟩, prog_26_method_152_code, (some .byte), [], 1, 722, 66, 720, 721, 0),
  (⟨"java/lang/String", "coder", "()B"⟩, prog_26_method_152_code, (some .byte), [], 1, 722, 66, 720, 721, 0),
  (⟨"java/lang/String", "coder", "()B"⟩, prog_26_method_152_code, (some .byte), [], 1, 722, 66, 720, 721, 0),
  (⟨"java/lang/String", "coder", "()B"⟩, prog_26_method_152_code, (some .byte), [], 1, 722, 66, 720, 721, 0),
  (⟨"java/lang/String", "coder", "()B"⟩, prog_26_method_152_code, (some .byte), [], 1, 722, 66, 720, 721, 0),
  (⟨"java/lang/String", "coder", "()B"⟩, prog_26_method_152_code, (some .byte), [], 1, 722, 66, 720, 721, 0),
  (⟨"java/lang/String", "coder", "()B"⟩, prog_26_method_152_code, (some .byte), [], 1, 722, 66, 720, 721, 0)]
def m_mds6 : List MD := [(⟨"java/lang/String", "coder", "()B"⟩, prog_26_method_152_code, (some .byte), [], 1, 722, 66, 720, 721, 0),
  (⟨"java/lang/String", "coder", "()B"⟩, prog_26_method_152_code, (some .byte), [], 1, 722, 66, 720, 721, 0),
  (⟨"java/lang/String", "coder", "()B"⟩, prog_26_method_152_code, (some .byte), [], 1, 722, 66, 720, 721, 0),
  (⟨"java/lang/String", "coder", "()B"⟩, prog_26_method_152_code, (some .byte), [], 1, 722, 66, 720, 721, 0),
  (⟨"java/lang/String", "coder", "()B"⟩, prog_26_method_152_code, (some .byte), [], 1, 722, 66, 720, 721, 0),
  (⟨"java/lang/String", "coder", "()B"⟩, prog_26_method_152_code, (some .byte), [], 1, 722, 66, 720, 721, 0),
  (⟨"java/lang/String", "coder", "()B"⟩, prog_26_method_152_code, (some .byte), [], 1, 722, 66, 720, 721, 0),
  (⟨"java/lang/String", "coder", "()B"⟩, prog_26_method_152_code, (some .byte), [], 1, 722, 66, 720, 721, 0),
  (⟨"java/lang/String", "coder", "()B"⟩, prog_26_method_152_code, (some .byte), [], 1, 722, 66, 720, 721, 0),
  (⟨"java/lang/String", "coder", "()B"⟩, prog_26_method_152_code, (some .byte), [], 1, 722, 66, 720, 721, 0),
  (⟨"java/lang/String", "coder", "()B"⟩, prog_26_method_152_code, (some .byte), [], 1, 722, 66, 720, 721, 0),
  (⟨"java/lang/String", "coder", "()B"⟩, prog_26_method_152_code, (some .byte), [], 1, 722, 66, 720, 721, 0),
  (⟨"java/lang/String", "coder", "()B"⟩, prog_26_method_152_code, (some .byte), [], 1, 722, 66, 720, 721, 0),
  (⟨"java/lang/String", "coder", "()B"⟩, prog_26_method_152_code, (some .byte), [], 1, 722, 66, 720, 721, 0),
  (⟨"java/lang/String", "coder", "()B"⟩, prog_26_method_152_code, (some .byte), [], 1, 722, 66, 720, 721, 0),
  (⟨"java/lang/String", "coder", "()B"⟩, prog_26_method_152_code, (some .byte), [], 1, 722, 66, 720, 721, 0),
  (⟨"java/lang/String", "coder", "()B"⟩, prog_26_method_152_code, (some .byte), [], 1, 722, 66, 720, 721, 0),
  (⟨"java/lang/String", "coder", "()B"⟩, prog_26_method_152_code, (some .byte), [], 1, 722, 66, 720, 721, 0),
  (⟨"java/lang/String", "coder", "()B"⟩, prog_26_method_152_code, (some .byte), [], 1, 722, 66, 720, 721, 0),
  (⟨"java/lang/String", "coder", "()B"⟩, prog_26_method_152_code, (some .byte), [], 1, 722, 66, 720, 721, 0),
  (⟨"java/lang/String", "coder", "()B"⟩, prog_26_method_152_code, (some .byte), [], 1, 722, 66, 720, 721, 0),
  (⟨"java/lang/String", "coder", "()B"⟩, prog_26_method_152_code, (some .byte), [], 1, 722, 66, 720, 721, 0),
  (⟨"java/lang/String", "coder", "()B"⟩, prog_26_method_152_code, (some .byte), [], 1, 722, 66, 720, 721, 0),
  (⟨"java/lang/String", "coder", "()B"⟩, prog_26_method_152_code, (some .byte), [], 1, 722, 66, 720, 721, 0),
  (⟨"java/lang/String", "coder", "()B"⟩, prog_26_method_152_code, (some .byte), [], 1, 722, 66, 720, 721, 0),
  (⟨"java/lang/String", "coder", "()B"⟩, prog_26_method_152_code, (some .byte), [], 1, 722, 66, 720, 721, 0),
  (⟨"java/lang/String", "coder", "()B"⟩, prog_26_method_152_code, (some .byte), [], 1, 722, 66, 720, 721, 0),
  (⟨"java/lang/String", "coder", "()B"⟩, prog_26_method_152_code, (some .byte), [], 1, 722, 66, 720, 721, 0),
  (⟨"java/lang/String", "coder", "()B"⟩, prog_26_method_152_code, (some .byte), [], 1, 722, 66, 720, 721, 0),
  (⟨"java/lang/String", "coder", "()B"⟩, prog_26_method_152_code, (some .byte), [], 1, 722, 66, 720, 721, 0),
  (⟨"java/lang/String", "coder", "()B"⟩, prog_26_method_152_code, (some .byte), [], 1, 722, 66, 720, 721, 0),
  (⟨"java/lang/String", "coder", "()B"⟩, prog_26_method_152_code, (some .byte), [], 1, 722, 66, 720, 721, 0),
  (⟨"java/lang/String", "coder", "()B"⟩, prog_26_method_152_code, (some .byte), [], 1, 722, 66, 720, 721, 0),
  (⟨"java/lang/String", "coder", "()B"⟩, prog_26_method_152_code, (some .byte), [], 1, 722, 66, 720, 721, 0),
  (⟨"java/lang/String", "coder", "()B"⟩, prog_26_method_152_code, (some .byte), [], 1, 722, 66, 720, 721, 0),
  (⟨"java/lang/String", "coder", "()B"⟩, prog_26_method_152_code, (some .byte), [], 1, 722, 66, 720, 721, 0),
  (⟨"java/lang/String", "coder", "()B"⟩, prog_26_method_152_code, (some .byte), [], 1, 722, 66, 720, 721, 0),
  (⟨"java/lang/String", "coder", "()B"⟩, prog_26_method_152_code, (some .byte), [], 1, 722, 66, 720, 721, 0),
  (⟨"java/lang/String", "coder", "()B"⟩, prog_26_method_152_code, (some .byte), [], 1, 722, 66, 720, 721, 0),
  (⟨"java/lang/String", "coder", "()B"⟩, prog_26_method_152_code, (some .byte), [], 1, 722, 66, 720, 721, 0)]
def m_mds7 : List MD := [(⟨"java/lang/String", "coder", "()B"⟩, prog_26_method_152_code, (some .byte), [], 1, 722, 66, 720, 721, 0),
  (⟨"java/lang/String", "coder", "()B"⟩, prog_26_method_152_code, (some .byte), [], 1, 722, 66, 720, 721, 0),
  (⟨"java/lang/String", "coder", "()B"⟩, prog_26_method_152_code, (some .byte), [], 1, 722, 66, 720, 721, 0),
  (⟨"java/lang/String", "coder", "()B"⟩, prog_26_method_152_code, (some .byte), [], 1, 722, 66, 720, 721, 0),
  (⟨"java/lang/String", "coder", "()B"⟩, prog_26_method_152_code, (some .byte), [], 1, 722, 66, 720, 721, 0),
  (⟨"java/lang/String", "coder", "()B"⟩, prog_26_method_152_code, (some .byte), [], 1, 722, 66, 720, 721, 0),
  (⟨"java/lang/String", "coder", "()B"⟩, prog_26_method_152_code, (some .byte), [], 1, 722, 66, 720, 721, 0),
  (⟨"java/lang/String", "coder", "()B"⟩, prog_26_method_152_code, (some .byte), [], 1, 722, 66, 720, 721, 0),
  (⟨"java/lang/String", "coder", "()B"⟩, prog_26_method_152_code, (some .byte), [], 1, 722, 66, 720, 721, 0),
  (⟨"java/lang/String", "coder", "()B"⟩, prog_26_method_152_code, (some .byte), [], 1, 722, 66, 720, 721, 0),
  (⟨"java/lang/String", "coder", "()B"⟩, prog_26_method_152_code, (some .byte), [], 1, 722, 66, 720, 721, 0),
  (⟨"java/lang/String", "coder", "()B"⟩, prog_26_method_152_code, (some .byte), [], 1, 722, 66, 720, 721, 0),
  (⟨"java/lang/String", "coder", "()B"⟩, prog_26_method_152_code, (some .byte), [], 1, 722, 66, 720, 721, 0),
  (⟨"java/lang/String", "coder", "()B"⟩, prog_26_method_152_code, (some .byte), [], 1, 722, 66, 720, 721, 0),
  (⟨"java/lang/String", "coder", "()B"⟩, prog_26_method_152_code, (some .byte), [], 1, 722, 66, 720, 721, 0),
  (⟨"java/lang/String", "coder", "()B"⟩, prog_26_method_152_code, (some .byte), [], 1, 722, 66, 720, 721, 0),
  (⟨"java/lang/String", "coder", "()B"⟩, prog_26_method_152_code, (some .byte), [], 1, 722, 66, 720, 721, 0),
  (⟨"java/lang/String", "coder", "()B"⟩, prog_26_method_152_code, (some .byte), [], 1, 722, 66, 720, 721, 0),
  (⟨"java/lang/String", "coder", "()B"⟩, prog_26_method_152_code, (some .byte), [], 1, 722, 66, 720, 721, 0),
  (⟨"java/lang/String", "coder", "()B"⟩, prog_26_method_152_code, (some .byte), [], 1, 722, 66, 720, 721, 0),
  (⟨"java/lang/String", "coder", "()B"⟩, prog_26_method_152_code, (some .byte), [], 1, 722, 66, 720, 721, 0),
  (⟨"java/lang/String", "coder", "()B"⟩, prog_26_method_152_code, (some .byte), [], 1, 722, 66, 720, 721, 0),
  (⟨"java/lang/String", "coder", "()B"⟩, prog_26_method_152_code, (some .byte), [], 1, 722, 66, 720, 721, 0),
  (⟨"java/lang/String", "coder", "()B"⟩, prog_26_method_152_code, (some .byte), [], 1, 722, 66, 720, 721, 0),
  (⟨"java/lang/String", "coder", "()B"⟩, prog_26_method_152_code, (some .byte), [], 1, 722, 66, 720, 721, 0),
  (⟨"java/lang/String", "coder", "()B"⟩, prog_26_method_152_code, (some .byte), [], 1, 722, 66, 720, 721, 0),
  (⟨"java/lang/String", "coder", "()B"⟩, prog_26_method_152_code, (some .byte), [], 1, 722, 66, 720, 721, 0),
  (⟨"java/lang/String", "coder", "()B"⟩, prog_26_method_152_code, (some .byte), [], 1, 722, 66, 720, 721, 0),
  (⟨"java/lang/String", "coder", "()B"⟩, prog_26_method_152_code, (some .byte), [], 1, 722, 66, 720, 721, 0),
  (⟨"java/lang/String", "coder", "()B"⟩, prog_26_method_152_code, (some .byte), [], 1, 722, 66, 720, 721, 0),
  (⟨"java/lang/String", "coder", "()B"⟩, prog_26_method_152_code, (some .byte), [], 1, 722, 66, 720, 721, 0),
  (⟨"java/lang/String", "coder", "()B"⟩, prog_26_method_152_code, (some .byte), [], 1, 722, 66, 720, 721, 0),
  (⟨"java/lang/String", "coder", "()B"⟩, prog_26_method_152_code, (some .byte), [], 1, 722, 66, 720, 721, 0),
  (⟨"java/lang/String", "coder", "()B"⟩, prog_26_method_152_code, (some .byte), [], 1, 722, 66, 720, 721, 0),
  (⟨"java/lang/String", "coder", "()B"⟩, prog_26_method_152_code, (some .byte), [], 1, 722, 66, 720, 721, 0),
  (⟨"java/lang/String", "coder", "()B"⟩, prog_26_method_152_code, (some .byte), [], 1, 722, 66, 720, 721, 0),
  (⟨"java/lang/String", "coder", "()B"⟩, prog_26_method_152_code, (some .byte), [], 1, 722, 66, 720, 721, 0),
  (⟨"java/lang/String", "coder", "()B"⟩, prog_26_method_152_code, (some .byte), [], 1, 722, 66, 720, 721, 0),
  (⟨"java/lang/String", "coder", "()B"⟩, prog_26_method_152_code, (some .byte), [], 1, 722, 66, 720, 721, 0),
  (⟨"java/lang/String", "coder", "()B"⟩, prog_26_method_152_code, (some .byte), [], 1, 722, 66, 720, 721, 0)]
def m_mds8 : List MD := [(⟨"java/lang/String", "coder", "()B"⟩, prog_26_method_152_code, (some .byte), [], 1, 722, 66, 720, 721, 0),
  (⟨"java/lang/String", "coder", "()B"⟩, prog_26_method_152_code, (some .byte), [], 1, 722, 66, 720, 721, 0),
  (⟨"java/lang/String", "coder", "()B"⟩, prog_26_method_152_code, (some .byte), [], 1, 722, 66, 720, 721, 0),
  (⟨"java/lang/String", "coder", "()B"⟩, prog_26_method_152_code, (some .byte), [], 1, 722, 66, 720, 721, 0),
  (⟨"java/lang/String", "coder", "()B"⟩, prog_26_method_152_code, (some .byte), [], 1, 722, 66, 720, 721, 0),
  (⟨"java/lang/String", "coder", "()B"⟩, prog_26_method_152_code, (some .byte), [], 1, 722, 66, 720, 721, 0),
  (⟨"java/lang/String", "coder", "()B"⟩, prog_26_method_152_code, (some .byte), [], 1, 722, 66, 720, 721, 0),
  (⟨"java/lang/String", "coder", "()B"⟩, prog_26_method_152_code, (some .byte), [], 1, 722, 66, 720, 721, 0),
  (⟨"java/lang/String", "coder", "()B"⟩, prog_26_method_152_code, (some .byte), [], 1, 722, 66, 720, 721, 0),
  (⟨"java/lang/String", "coder", "()B"⟩, prog_26_method_152_code, (some .byte), [], 1, 722, 66, 720, 721, 0),
  (⟨"java/lang/String", "coder", "()B"⟩, prog_26_method_152_code, (some .byte), [], 1, 722, 66, 720, 721, 0),
  (⟨"java/lang/String", "coder", "()B"⟩, prog_26_method_152_code, (some .byte), [], 1, 722, 66, 720, 721, 0),
  (⟨"java/lang/String", "coder", "()B"⟩, prog_26_method_152_code, (some .byte), [], 1, 722, 66, 720, 721, 0),
  (⟨"java/lang/String", "coder", "()B"⟩, prog_26_method_152_code, (some .byte), [], 1, 722, 66, 720, 721, 0),
  (⟨"java/lang/String", "coder", "()B"⟩, prog_26_method_152_code, (some .byte), [], 1, 722, 66, 720, 721, 0),
  (⟨"java/lang/String", "coder", "()B"⟩, prog_26_method_152_code, (some .byte), [], 1, 722, 66, 720, 721, 0),
  (⟨"java/lang/String", "coder", "()B"⟩, prog_26_method_152_code, (some .byte), [], 1, 722, 66, 720, 721, 0),
  (⟨"java/lang/String", "coder", "()B"⟩, prog_26_method_152_code, (some .byte), [], 1, 722, 66, 720, 721, 0),
  (⟨"java/lang/String", "coder", "()B"⟩, prog_26_method_152_code, (some .byte), [], 1, 722, 66, 720, 721, 0),
  (⟨"java/lang/String", "coder", "()B"⟩, prog_26_method_152_code, (some .byte), [], 1, 722, 66, 720, 721, 0),
  (⟨"java/lang/String", "coder", "()B"⟩, prog_26_method_152_code, (some .byte), [], 1, 722, 66, 720, 721, 0),
  (⟨"java/lang/String", "coder", "()B"⟩, prog_26_method_152_code, (some .byte), [], 1, 722, 66, 720, 721, 0),
  (⟨"java/lang/String", "coder", "()B"⟩, prog_26_method_152_code, (some .byte), [], 1, 722, 66, 720, 721, 0),
  (⟨"java/lang/String", "coder", "()B"⟩, prog_26_method_152_code, (some .byte), [], 1, 722, 66, 720, 721, 0),
  (⟨"java/lang/String", "coder", "()B"⟩, prog_26_method_152_code, (some .byte), [], 1, 722, 66, 720, 721, 0),
  (⟨"java/lang/String", "coder", "()B"⟩, prog_26_method_152_code, (some .byte), [], 1, 722, 66, 720, 721, 0),
  (⟨"java/lang/String", "coder", "()B"⟩, prog_26_method_152_code, (some .byte), [], 1, 722, 66, 720, 721, 0),
  (⟨"java/lang/String", "coder", "()B"⟩, prog_26_method_152_code, (some .byte), [], 1, 722, 66, 720, 721, 0),
  (⟨"java/lang/String", "coder", "()B"⟩, prog_26_method_152_code, (some .byte), [], 1, 722, 66, 720, 721, 0),
  (⟨"java/lang/String", "coder", "()B"⟩, prog_26_method_152_code, (some .byte), [], 1, 722, 66, 720, 721, 0),
  (⟨"java/lang/String", "coder", "()B"⟩, prog_26_method_152_code, (some .byte), [], 1, 722, 66, 720, 721, 0),
  (⟨"java/lang/String", "coder", "()B"⟩, prog_26_method_152_code, (some .byte), [], 1, 722, 66, 720, 721, 0),
  (⟨"java/lang/String", "coder", "()B"⟩, prog_26_method_152_code, (some .byte), [], 1, 722, 66, 720, 721, 0),
  (⟨"java/lang/String", "coder", "()B"⟩, prog_26_method_152_code, (some .byte), [], 1, 722, 66, 720, 721, 0),
  (⟨"java/lang/String", "coder", "()B"⟩, prog_26_method_152_code, (some .byte), [], 1, 722, 66, 720, 721, 0),
  (⟨"java/lang/String", "coder", "()B"⟩, prog_26_method_152_code, (some .byte), [], 1, 722, 66, 720, 721, 0),
  (⟨"java/lang/String", "coder", "()B"⟩, prog_26_method_152_code, (some .byte), [], 1, 722, 66, 720, 721, 0),
  (⟨"java/lang/String", "coder", "()B"⟩, prog_26_method_152_code, (some .byte), [], 1, 722, 66, 720, 721, 0),
  (⟨"java/lang/String", "coder", "()B"⟩, prog_26_method_152_code, (some .byte), [], 1, 722, 66, 720, 721, 0),
  (⟨"java/lang/String", "coder", "()B"⟩, prog_26_method_152_code, (some .byte), [], 1, 722, 66, 720, 721, 0)]
def m_mds9 : List MD := [(⟨"java/lang/String", "coder", "()B"⟩, prog_26_method_152_code, (some .byte), [], 1, 722, 66, 720, 721, 0),
  (⟨"java/lang/String", "coder", "()B"⟩, prog_26_method_152_code, (some .byte), [], 1, 722, 66, 720, 721, 0),
  (⟨"java/lang/String", "coder", "()B"⟩, prog_26_method_152_code, (some .byte), [], 1, 722, 66, 720, 721, 0),
  (⟨"java/lang/String", "coder", "()B"⟩, prog_26_method_152_code, (some .byte), [], 1, 722, 66, 720, 721, 0),
  (⟨"java/lang/String", "coder", "()B"⟩, prog_26_method_152_code, (some .byte), [], 1, 722, 66, 720, 721, 0),
  (⟨"java/lang/String", "coder", "()B"⟩, prog_26_method_152_code, (some .byte), [], 1, 722, 66, 720, 721, 0),
  (⟨"java/lang/String", "coder", "()B"⟩, prog_26_method_152_code, (some .byte), [], 1, 722, 66, 720, 721, 0),
  (⟨"java/lang/String", "coder", "()B"⟩, prog_26_method_152_code, (some .byte), [], 1, 722, 66, 720, 721, 0),
  (⟨"java/lang/String", "coder", "()B"⟩, prog_26_method_152_code, (some .byte), [], 1, 722, 66, 720, 721, 0),
  (⟨"java/lang/String", "coder", "()B"⟩, prog_26_method_152_code, (some .byte), [], 1, 722, 66, 720, 721, 0),
  (⟨"java/lang/String", "coder", "()B"⟩, prog_26_method_152_code, (some .byte), [], 1, 722, 66, 720, 721, 0),
  (⟨"java/lang/String", "coder", "()B"⟩, prog_26_method_152_code, (some .byte), [], 1, 722, 66, 720, 721, 0),
  (⟨"java/lang/String", "coder", "()B"⟩, prog_26_method_152_code, (some .byte), [], 1, 722, 66, 720, 721, 0),
  (⟨"java/lang/String", "coder", "()B"⟩, prog_26_method_152_code, (some .byte), [], 1, 722, 66, 720, 721, 0),
  (⟨"java/lang/String", "coder", "()B"⟩, prog_26_method_152_code, (some .byte), [], 1, 722, 66, 720, 721, 0),
  (⟨"java/lang/String", "coder", "()B"⟩, prog_26_method_152_code, (some .byte), [], 1, 722, 66, 720, 721, 0),
  (⟨"java/lang/String", "coder", "()B"⟩, prog_26_method_152_code, (some .byte), [], 1, 722, 66, 720, 721, 0),
  (⟨"java/lang/String", "coder", "()B"⟩, prog_26_method_152_code, (some .byte), [], 1, 722, 66, 720, 721, 0),
  (⟨"java/lang/String", "coder", "()B"⟩, prog_26_method_152_code, (some .byte), [], 1, 722, 66, 720, 721, 0),
  (⟨"java/lang/String", "coder", "()B"⟩, prog_26_method_152_code, (some .byte), [], 1, 722, 66, 720, 721, 0),
  (⟨"java/lang/String", "coder", "()B"⟩, prog_26_method_152_code, (some .byte), [], 1, 722, 66, 720, 721, 0),
  (⟨"java/lang/String", "coder", "()B"⟩, prog_26_method_152_code, (some .byte), [], 1, 722, 66, 720, 721, 0),
  (⟨"java/lang/String", "coder", "()B"⟩, prog_26_method_152_code, (some .byte), [], 1, 722, 66, 720, 721, 0),
  (⟨"java/lang/String", "coder", "()B"⟩, prog_26_method_152_code, (some .byte), [], 1, 722, 66, 720, 721, 0),
  (⟨"java/lang/String", "coder", "()B"⟩, prog_26_method_152_code, (some .byte), [], 1, 722, 66, 720, 721, 0),
  (⟨"java/lang/String", "coder", "()B"⟩, prog_26_method_152_code, (some .byte), [], 1, 722, 66, 720, 721, 0),
  (⟨"java/lang/String", "coder", "()B"⟩, prog_26_method_152_code, (some .byte), [], 1, 722, 66, 720, 721, 0),
  (⟨"SyntaxspanLaw", "does", "(LSyntaxspan;IIIII)I"⟩, method_8_code, (some .int), [(0, 111, 112, 87), (0, 111, 117, 89), (0, 111, 122, 91)], 0, 527, 46, 526, 0, 6),
  (⟨"SyntaxspanLaw", "areEdits", "(LSyntaxspan;[I)Z"⟩, method_12_code, (some .boolean), [], 0, 512, 46, 511, 0, 2),
  (⟨"SyntaxspanLaw", "isFunction", "(I)Z"⟩, method_20_code, (some .boolean), [], 0, 1354, 46, 1353, 0, 1),
  (⟨"SyntaxspanLaw", "value", "([IJ)J"⟩, method_19_code, (some .long), [], 0, 1520, 46, 1519, 0, 2),
  (⟨"java/lang/String", "coder", "()B"⟩, prog_26_method_152_code, (some .byte), [], 1, 722, 66, 720, 721, 0),
  (⟨"java/lang/String", "coder", "()B"⟩, prog_26_method_152_code, (some .byte), [], 1, 722, 66, 720, 721, 0),
  (⟨"java/lang/String", "coder", "()B"⟩, prog_26_method_152_code, (some .byte), [], 1, 722, 66, 720, 721, 0),
  (⟨"java/lang/String", "coder", "()B"⟩, prog_26_method_152_code, (some .byte), [], 1, 722, 66, 720, 721, 0),
  (⟨"java/lang/String", "coder", "()B"⟩, prog_26_method_152_code, (some .byte), [], 1, 722, 66, 720, 721, 0),
  (⟨"java/lang/String", "coder", "()B"⟩, prog_26_method_152_code, (some .byte), [], 1, 722, 66, 720, 721, 0),
  (⟨"java/lang/String", "coder", "()B"⟩, prog_26_method_152_code, (some .byte), [], 1, 722, 66, 720, 721, 0),
  (⟨"java/lang/String", "coder", "()B"⟩, prog_26_method_152_code, (some .byte), [], 1, 722, 66, 720, 721, 0),
  (⟨"java/lang/String", "coder", "()B"⟩, prog_26_method_152_code, (some .byte), [], 1, 722, 66, 720, 721, 0)]
def m_mds10 : List MD := [(⟨"java/lang/String", "coder", "()B"⟩, prog_26_method_152_code, (some .byte), [], 1, 722, 66, 720, 721, 0),
  (⟨"java/lang/String", "coder", "()B"⟩, prog_26_method_152_code, (some .byte), [], 1, 722, 66, 720, 721, 0),
  (⟨"java/lang/String", "coder", "()B"⟩, prog_26_method_152_code, (some .byte), [], 1, 722, 66, 720, 721, 0),
  (⟨"java/lang/String", "coder", "()B"⟩, prog_26_method_152_code, (some .byte), [], 1, 722, 66, 720, 721, 0),
  (⟨"java/lang/String", "coder", "()B"⟩, prog_26_method_152_code, (some .byte), [], 1, 722, 66, 720, 721, 0),
  (⟨"java/lang/String", "coder", "()B"⟩, prog_26_method_152_code, (some .byte), [], 1, 722, 66, 720, 721, 0),
  (⟨"java/lang/String", "coder", "()B"⟩, prog_26_method_152_code, (some .byte), [], 1, 722, 66, 720, 721, 0),
  (⟨"java/lang/String", "coder", "()B"⟩, prog_26_method_152_code, (some .byte), [], 1, 722, 66, 720, 721, 0),
  (⟨"java/lang/String", "coder", "()B"⟩, prog_26_method_152_code, (some .byte), [], 1, 722, 66, 720, 721, 0),
  (⟨"java/lang/String", "coder", "()B"⟩, prog_26_method_152_code, (some .byte), [], 1, 722, 66, 720, 721, 0),
  (⟨"java/lang/String", "coder", "()B"⟩, prog_26_method_152_code, (some .byte), [], 1, 722, 66, 720, 721, 0),
  (⟨"java/lang/String", "coder", "()B"⟩, prog_26_method_152_code, (some .byte), [], 1, 722, 66, 720, 721, 0),
  (⟨"java/lang/String", "coder", "()B"⟩, prog_26_method_152_code, (some .byte), [], 1, 722, 66, 720, 721, 0),
  (⟨"java/lang/String", "coder", "()B"⟩, prog_26_method_152_code, (some .byte), [], 1, 722, 66, 720, 721, 0),
  (⟨"java/lang/String", "coder", "()B"⟩, prog_26_method_152_code, (some .byte), [], 1, 722, 66, 720, 721, 0),
  (⟨"java/lang/String", "coder", "()B"⟩, prog_26_method_152_code, (some .byte), [], 1, 722, 66, 720, 721, 0),
  (⟨"java/lang/String", "coder", "()B"⟩, prog_26_method_152_code, (some .byte), [], 1, 722, 66, 720, 721, 0),
  (⟨"java/lang/String", "coder", "()B"⟩, prog_26_method_152_code, (some .byte), [], 1, 722, 66, 720, 721, 0),
  (⟨"java/lang/String", "coder", "()B"⟩, prog_26_method_152_code, (some .byte), [], 1, 722, 66, 720, 721, 0),
  (⟨"java/lang/String", "coder", "()B"⟩, prog_26_method_152_code, (some .byte), [], 1, 722, 66, 720, 721, 0),
  (⟨"SyntaxspanLaw", "law", "([I)Z"⟩, code, (some .boolean), [], 9, 0, 0, 0, 0, 1),
  (⟨"java/lang/String", "length", "()I"⟩, prog_26_method_54_code, (some .int), [], 1, 718, 66, 716, 717, 0),
  (⟨"java/lang/String", "charAt", "(I)C"⟩, prog_26_method_56_code, (some .char), [], 1, 728, 66, 726, 727, 1),
  (⟨"java/lang/String", "coder", "()B"⟩, prog_26_method_152_code, (some .byte), [], 1, 722, 66, 720, 721, 0),
  (⟨"java/lang/String", "coder", "()B"⟩, prog_26_method_152_code, (some .byte), [], 1, 722, 66, 720, 721, 0),
  (⟨"java/lang/String", "coder", "()B"⟩, prog_26_method_152_code, (some .byte), [], 1, 722, 66, 720, 721, 0),
  (⟨"java/lang/String", "isLatin1", "()Z"⟩, prog_26_method_154_code, (some .boolean), [], 1, 732, 66, 730, 731, 0),
  (⟨"java/lang/String", "checkIndex", "(II)V"⟩, prog_26_method_155_code, none, [], 0, 738, 66, 737, 0, 2),
  (⟨"java/lang/StringLatin1", "charAt", "([BI)C"⟩, prog_28_method_2_code, (some .char), [], 0, 735, 67, 734, 0, 2),
  (⟨"java/lang/String", "coder", "()B"⟩, prog_26_method_152_code, (some .byte), [], 1, 722, 66, 720, 721, 0),
  (⟨"java/lang/String", "coder", "()B"⟩, prog_26_method_152_code, (some .byte), [], 1, 722, 66, 720, 721, 0),
  (⟨"java/lang/String", "coder", "()B"⟩, prog_26_method_152_code, (some .byte), [], 1, 722, 66, 720, 721, 0),
  (⟨"jdk/internal/util/Preconditions", "checkIndex", "(IILjava/util/function/BiFunction;)I"⟩, prog_34_method_11_code, (some .int), [], 0, 743, 68, 742, 0, 3),
  (⟨"java/util/Arrays", "fill", "([II)V"⟩, prog_32_method_103_code, none, [], 0, 1196, 71, 1195, 0, 2),
  (⟨"java/util/Arrays", "fill", "([IIII)V"⟩, prog_32_method_104_code, none, [], 0, 839, 71, 838, 0, 4),
  (⟨"java/util/Arrays", "fill", "([JIIJ)V"⟩, prog_32_method_102_code, none, [], 0, 1470, 71, 1469, 0, 4),
  (⟨"java/util/Arrays", "rangeCheck", "(III)V"⟩, prog_32_method_30_code, none, [], 0, 842, 71, 841, 0, 3),
  (⟨"java/lang/Math", "max", "(II)I"⟩, prog_23_method_65_code, (some .int), [], 0, 900, 70, 899, 0, 2),
  (⟨"java/lang/Math", "min", "(II)I"⟩, prog_23_method_69_code, (some .int), [], 0, 836, 70, 835, 0, 2)]
def m_mds : List MD := m_mds0 ++ (m_mds1 ++ (m_mds2 ++ (m_mds3 ++ (m_mds4 ++ (m_mds5 ++ (m_mds6 ++ (m_mds7 ++ (m_mds8 ++ (m_mds9 ++ (m_mds10))))))))))
def m_md (M : Nat) : MD := m_mds.getD M (⟨"", "", ""⟩, ⟨#[]⟩, none, [], 99, 0, 0, 0, 0, 0)
def m_y (M : Nat) : MethodName := (m_md M).1
def m_cc (M : Nat) : ByteArray := (m_md M).2.1
def m_ret (M : Nat) : Option FieldType := (m_md M).2.2.1
def m_raw (M : Nat) : List (Nat × Nat × Nat × Nat) := (m_md M).2.2.2.1
def m_knd (M : Nat) : Nat := (m_md M).2.2.2.2.1
def m_par (M : Nat) : Nat := (m_md M).2.2.2.2.2.2.2.2.2
def m_w0 (M : Nat) : Cond := match m_raw M with
  | [] => .code (m_y M) (m_cc M) (m_mls.getD M 0) (m_ret M)
  | hh => .codeWith (m_y M) (m_cc M) (m_mls.getD M 0) (m_ret M) hh
def m_has (w : Cond) (j : Nat) : Bool := decide (lw_tbl[j]? = some w) && goodWord w
def m_hasN (w : Cond) (j : Nat) : Bool := decide (lw_tbl[j]? = some w) && m_nest w
theorem m_has_ok {w : Cond} {j : Nat} (h : m_has w j = true) : w ∈ lw_tbl ∧ goodWord w = true := by
  unfold m_has at h
  rw [Bool.and_eq_true, decide_eq_true_iff] at h
  exact ⟨List.mem_of_getElem? h.1, h.2⟩
theorem m_hasN_ok {w : Cond} {j : Nat} (h : m_hasN w j = true) : w ∈ lw_tbl ∧ m_nest w = true := by
  unfold m_hasN at h
  rw [Bool.and_eq_true, decide_eq_true_iff] at h
  exact ⟨List.mem_of_getElem? h.1, h.2⟩
def m_rok (M : Nat) : Bool := match m_cl[m_own M]? with
  | some r => decide (r.1 = (m_y M).cls)
  | none => m_own M == 200 && decide ((m_y M).cls = "java/lang/String")
def m_eqB (a b : ByteArray) : Bool := a.data.toList == b.data.toList
theorem m_eqB_ok {a b : ByteArray} (h : m_eqB a b = true) : a = b := by
  obtain ⟨a⟩ := a
  obtain ⟨b⟩ := b
  have h1 : a.toList = b.toList := eq_of_beq h
  rw [Array.toList_inj.mp h1]
def m_eqw (a b : Cond) : Bool := match a, b with
  | .code y c m r, .code y2 c2 m2 r2 => decide (y = y2) && (m_eqB c c2 && (decide (m = m2) && decide (r = r2)))
  | .codeWith y c m r hh, .codeWith y2 c2 m2 r2 hh2 => decide (y = y2) && (m_eqB c c2 && (decide (m = m2) && (decide (r = r2) && decide (hh = hh2))))
  | _, _ => false
theorem m_eqw_ok {a b : Cond} (h : m_eqw a b = true) : a = b := by
  unfold m_eqw at h
  split at h
  · simp only [Bool.and_eq_true, decide_eq_true_iff] at h
    obtain ⟨rfl, h2, rfl, rfl⟩ := h
    rw [m_eqB_ok h2]
  · simp only [Bool.and_eq_true, decide_eq_true_iff] at h
    obtain ⟨rfl, h2, rfl, rfl, rfl⟩ := h
    rw [m_eqB_ok h2]
  · cases h
def m_hasC (w : Cond) (j : Nat) : Bool := (match lw_tbl[j]? with
  | some v => m_eqw v w
  | none => false) && goodWord w
theorem m_hasC_ok {w : Cond} {j : Nat} (h : m_hasC w j = true) : w ∈ lw_tbl ∧ goodWord w = true := by
  unfold m_hasC at h
  rw [Bool.and_eq_true] at h
  refine ⟨?_, h.2⟩
  have h1 := h.1
  split at h1
  · next v hv =>
    rw [← m_eqw_ok h1]
    exact List.mem_of_getElem? hv
  · cases h1
def m_mok (M : Nat) : Bool :=
  (m_knd M == 0 || m_rok M) && (m_hasC (m_w0 M) (m_md M).2.2.2.2.2.1 && (m_has (.initialized (m_y M).cls) (m_md M).2.2.2.2.2.2.1 && ((plainFor (m_y M) && ((plainName (m_y M).cls || decide (421 ≤ M)) && (decide (387 ≤ M) || (m_raw M).isEmpty))) && (decide ((m_y M).cls ≠ "java/lang/invoke/MethodHandle") && (decide ((m_y M).cls ≠ "java/lang/invoke/VarHandle") &&
  (decide ((parseMethodDescriptor (m_y M).desc).map (fun d => d.parameters.length) = some (m_par M)) && (decide (m_mls.getD M 0 ≤ 80) &&
  (match m_knd M with
    | 0 => m_has (.static (m_y M)) (m_md M).2.2.2.2.2.2.2.1
    | 1 => m_has (.instanceMethod (m_y M)) (m_md M).2.2.2.2.2.2.2.1 && m_has (.selects (m_y M).cls (m_y M) (m_y M)) (m_md M).2.2.2.2.2.2.2.2.1
    | 2 => m_has (.instanceMethod (m_y M)) (m_md M).2.2.2.2.2.2.2.1 && (decide ((m_y M).name = "<init>") && decide (m_ret M = none))
    | _ => false))))))))
def m_ln : Instr → Nat
  | .bipush _ => 2
  | .iload _ => 2
  | .lload _ => 2
  | .aload _ => 2
  | .istore _ => 2
  | .lstore _ => 2
  | .astore _ => 2
  | .ldc _ => 2
  | .newarray _ => 2
  | .sipush _ => 3
  | .ldc_w _ => 3
  | .ldc2_w _ => 3
  | .iinc _ _ => 3
  | .ifCond _ _ => 3
  | .if_icmp _ _ => 3
  | .goto _ => 3
  | .getfield _ => 3
  | .putfield _ => 3
  | .getstatic _ => 3
  | .new _ => 3
  | .anewarray _ => 3
  | .invokespecial _ => 3
  | .invokevirtual _ => 3
  | .invokestatic _ => 3
  | _ => 1
def m_isT : Instr → Bool
  | .tableswitch .. => true
  | _ => false
def m_dcd (cc : ByteArray) (pc : Nat) (i : Instr) : Bool := match decode cc pc with
  | .ok (j, n) => decide (j = i) && (n == m_ln i || m_isT i)
  | _ => false
def m_rng32 (v : Int) : Bool := decide (-2147483648 ≤ v) && decide (v < 2147483648)
def m_fw (own : String) (idx : Nat) (r : vw_C) (q : LK) : Bool :=
  if q.2.2.2 = 0 then m_has (.fieldLink own idx (r.2.1 q.2.1).1 (r.2.1 q.2.1).2.1 (r.2.1 q.2.1).2.2.1) q.2.2.1 else m_hasN (.fieldLinkNest own idx (r.2.1 q.2.1).1 (r.2.1 q.2.1).2.1 (r.2.1 q.2.1).2.2.1 "Syntaxspan") q.2.2.1
def m_ics : List Nat := [75, 78, 81]
def m_spc (own nm : String) (ret : Option FieldType) (cc : ByteArray) (pc : Nat) (i : Instr) (q : LK) : Bool :=
  match i with
  | .iconst v => m_rng32 v
  | .bipush v => decide (-128 ≤ v) && decide (v < 128)
  | .sipush v => decide (-32768 ≤ v) && decide (v < 32768)
  | .iinc _ v => m_rng32 v
  | .ifCond _ off => decide (0 ≤ (pc : Int) + off)
  | .if_icmp _ off => decide (0 ≤ (pc : Int) + off)
  | .goto off => decide (0 ≤ (pc : Int) + off)
  | .getfield idx => (match m_cl[q.1]? with
    | some r => decide (q.2.1 < r.2.2) && m_fw own idx r q
    | none => (q.1 == 100 && ((q.2.1 == 0 && m_has (.fieldLink own idx "java/lang/String" "value" "[B") q.2.2.1) || (q.2.1 == 1 && m_has (.fieldLink own idx "java/lang/String" "coder" "B") q.2.2.1))) || decide (150 ≤ q.1))
  | .putfield idx => (match m_cl[q.1]? with
    | some r => decide (q.2.1 < r.2.2) && (m_fw own idx r q && (!(r.2.1 q.2.1).2.2.2 || (q.2.2.2 == 0 && (decide (nm = "<init>") && decide ((r.2.1 q.2.1).1 = own)))))
    | none => decide (150 ≤ q.1))
  | .getstatic idx => (q.1 == 0 && (q.2.1 == 2 && m_has (.fieldLink own idx "Syntaxspan" "WORD_STARTS" "[I") q.2.2.1)) || ((q.1 == 0 && (q.2.1 == 3 && m_has (.fieldLink own idx "Syntaxspan" "SIGNS" "[C") q.2.2.1)) || ((q.1 == 0 && (q.2.1 == 4 && m_has (.fieldLink own idx "Syntaxspan" "WORDS" "[C") q.2.2.1)) || ((q.1 == 1 && m_has (.fieldLink own idx "java/lang/String" "COMPACT_STRINGS" "Z") q.2.2.1) || ((q.1 == 2 && m_has (.fieldLink own idx "jdk/internal/util/Preconditions" "SIOOBE_FORMATTER" "Ljava/util/function/BiFunction;") q.2.2.1) || decide (3 ≤ q.1)))))
  | .ldc idx => (q.1 == 1 && (decide (q.2.1 < 2147483648) && m_has (.constant own idx (Int32.ofInt (q.2.1 : Int))) q.2.2.1)) || ((q.1 == 2 && (decide (q.2.1 < 29) && (match m_strs[q.2.1]? with
    | some t => decide (t.1 = own) && t.2.1 == idx
    | none => false))) || ((q.1 == 3 && (decide (q.2.1 ≤ 2147483648) && m_has (.constant own idx (Int32.ofInt (-(q.2.1 : Int)))) q.2.2.1)) || (decide (4 ≤ q.1) || q.1 == 0)))
  | .ldc_w idx => (q.1 == 1 && (decide (q.2.1 < 2147483648) && m_has (.constant own idx (Int32.ofInt (q.2.1 : Int))) q.2.2.1)) || ((q.1 == 2 && (decide (q.2.1 < 29) && (match m_strs[q.2.1]? with
    | some t => decide (t.1 = own) && t.2.1 == idx
    | none => false))) || ((q.1 == 3 && (decide (q.2.1 ≤ 2147483648) && m_has (.constant own idx (Int32.ofInt (-(q.2.1 : Int)))) q.2.2.1)) || (decide (4 ≤ q.1) || q.1 == 0)))
  | .ldc2_w idx => (q.1 == 1 && (decide (q.2.1 < 2147483648) && m_has (.constantLong own idx (Int64.ofInt (q.2.1 : Int))) q.2.2.1)) || ((q.1 == 3 && (decide (q.2.1 ≤ 2147483648) && m_has (.constantLong own idx (Int64.ofInt (-(q.2.1 : Int)))) q.2.2.1)) || (!(q.1 == 1) && !(q.1 == 3)))
  | .anewarray idx => (match m_cl[q.1]? with
    | some r => m_has (.classLink own idx r.1) q.2.2.1 && m_hasN (.arrayOver (.object r.1)) q.2.2.2
    | none => decide (40 ≤ q.1))
  | .new idx => (match m_cl[q.1]? with
    | some r => r.2.2 == q.2.1 && (m_has (.classLink own idx r.1) q.2.2.1 && m_has (.instantiable r.1 r.2.2) q.2.2.2)
    | none => (decide (50 ≤ q.1) && decide (q.1 < 200)) || (decide (200 ≤ q.1) && (decide (q.1 < 203) && (decide (own = "Syntaxspan") && (m_has (.classLink own idx (m_exn (q.1 - 200))) q.2.2.1 &&
      (m_dcd cc (pc + 3) .dup && (m_dcd cc (pc + 4) (.invokespecial (m_ics.getD (q.1 - 200) 0)) && m_dcd cc (pc + 7) .athrow)))))))
  | .invokespecial idx => (q.2.2.2 == 9 && m_has (.methodLink own idx Lib.objectInit) q.2.2.1) || ((q.2.2.2 == 4 && (m_has (.methodLink own idx (m_y q.1)) q.2.2.1 && (decide (q.1 < 439 ∧ q.1 ≠ 420) && (m_knd q.1 == 2 && q.2.1 == m_par q.1 + 1)))) || ((q.2.2.2 == 5 && (m_hasN (.methodLinkNest own idx (m_y q.1) "Syntaxspan") q.2.2.1 && (decide (q.1 < 439 ∧ q.1 ≠ 420) && (m_knd q.1 == 2 && q.2.1 == m_par q.1 + 1)))) || (q.2.2.2 == 8)))
  | .invokevirtual idx => (q.2.2.2 == 2 && (m_has (.methodLink own idx (m_y q.1)) q.2.2.1 && (decide (q.1 < 439 ∧ q.1 ≠ 420) && (m_knd q.1 == 1 && q.2.1 == m_par q.1 + 1)))) || ((q.2.2.2 == 3 && (m_hasN (.methodLinkNest own idx (m_y q.1) "Syntaxspan") q.2.2.1 && (decide (q.1 < 439 ∧ q.1 ≠ 420) && (m_knd q.1 == 1 && q.2.1 == m_par q.1 + 1)))) || (q.2.2.2 == 8))
  | .invokestatic idx => (q.2.2.2 == 6 && m_has (.methodLink own idx arraycopyName) q.2.2.1) || ((q.2.2.2 == 0 && (m_has (.methodLink own idx (m_y q.1)) q.2.2.1 && (decide (q.1 < 439 ∧ q.1 ≠ 420) && (m_knd q.1 == 0 && (q.2.1 == m_par q.1 && (m_raw q.1).isEmpty))))) || ((q.2.2.2 == 1 && (m_hasN (.methodLinkNest own idx (m_y q.1) "Syntaxspan") q.2.2.1 && (decide (q.1 < 439 ∧ q.1 ≠ 420) && (m_knd q.1 == 0 && (q.2.1 == m_par q.1 && (m_raw q.1).isEmpty))))) || ((q.2.2.2 == 7 && (m_has (.methodLink own idx (m_y q.1)) q.2.2.1 && (decide (q.1 < 439 ∧ q.1 ≠ 420) && (m_knd q.1 == 0 && (q.2.1 == m_par q.1 && !(m_raw q.1).isEmpty))))) || q.2.2.2 == 8)))
  | .ireturn => (match ret with
    | some .int => q.1 == 0
    | some .boolean => q.1 == 2
    | some .char => q.1 == 3
    | some .byte => q.1 == 5
    | _ => decide (6 ≤ q.1))
  | .lreturn => decide (ret = some .long)
  | .areturn => (match ret with
    | some (.object _) => true
    | some (.array _) => true
    | _ => false)
  | .return_ => decide (ret = none)
  | _ => true
def m_ick (M pc : Nat) (i : Instr) (q : LK) : Bool := m_dcd (m_cc M) pc i && m_spc (m_y M).cls (m_y M).name (m_ret M) (m_cc M) pc i q
def m_tck (M : Nat) (tb : List (Option (Instr × LK))) : Bool := tb.zipIdx.all fun x => match x.1 with
  | some (i, q) => m_ick M x.2 i q
  | none => true
