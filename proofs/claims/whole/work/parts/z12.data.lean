/-! THE METHODS' DATA AND THE CHECK OF THEIR TABLES -/
abbrev MD : Type := MethodName × ByteArray × Option FieldType × List (Nat × Nat × Nat × Nat) × Nat × Nat × Nat × Nat × Nat × Nat
def m_mds0 : List MD := [(⟨"Syntaxspan$Completer", "<init>", "()V"⟩, prog_2_method_1_code, none, [], 2, 613, 218, 612, 0, 0),
  (⟨"Syntaxspan$Completer", "maySet", "(LSyntaxspan$Desk;II)I"⟩, prog_2_method_2_code, (some .int), [], 1, 1839, 218, 1837, 1838, 3),
  (⟨"Syntaxspan$Completer", "takeAhead", "(LSyntaxspan$Tokens;I)I"⟩, prog_2_method_3_code, (some .int), [], 1, 1843, 218, 1842, 57, 2),
  (⟨"Syntaxspan$Completer", "gather", "(LSyntaxspan$Desk;II[CI)V"⟩, prog_2_method_4_code, none, [], 1, 1922, 218, 1920, 1921, 5),
  (⟨"Syntaxspan$Completer", "addLocals", "(LSyntaxspan$Desk;II)V"⟩, prog_2_method_5_code, none, [], 1, 1927, 218, 1926, 59, 3),
  (⟨"Syntaxspan$Completer", "openEnd", "(I)I"⟩, prog_2_method_6_code, (some .int), [], 1, 1931, 218, 1930, 60, 1),
  (⟨"Syntaxspan$Completer", "addFunctions", "(LSyntaxspan$Desk;II)V"⟩, prog_2_method_7_code, none, [], 1, 1945, 218, 1944, 62, 3),
  (⟨"Syntaxspan$Completer", "addNew", "(LSyntaxspan$Desk;II)V"⟩, prog_2_method_8_code, none, [], 1, 1940, 218, 1939, 61, 3),
  (⟨"Syntaxspan$Completer", "keepBegun", "(LSyntaxspan$Desk;[CI)V"⟩, prog_2_method_9_code, none, [], 1, 1950, 218, 1949, 63, 3),
  (⟨"Syntaxspan$Completer", "begins", "(LSyntaxspan$Desk;I[CI)Z"⟩, prog_2_method_10_code, (some .boolean), [], 0, 1953, 218, 1952, 0, 4),
  (⟨"Syntaxspan$Desk", "<init>", "()V"⟩, prog_3_method_1_code, none, [], 2, 252, 209, 251, 0, 0),
  (⟨"Syntaxspan$Desk", "refresh", "()V"⟩, prog_3_method_2_code, none, [], 1, 734, 209, 732, 733, 0),
  (⟨"Syntaxspan$Desk", "bindFile", "(I)V"⟩, prog_3_method_3_code, none, [], 1, 1227, 209, 1226, 19, 1),
  (⟨"Syntaxspan$Desk", "bindParams", "(II)V"⟩, prog_3_method_4_code, none, [], 1, 1252, 209, 1251, 20, 2),
  (⟨"Syntaxspan$Desk", "functionFor", "(II)I"⟩, prog_3_method_5_code, (some .int), [], 1, 1256, 209, 1255, 21, 2),
  (⟨"Syntaxspan$Desk", "firstFunction", "(II)I"⟩, prog_3_method_6_code, (some .int), [], 1, 1260, 209, 1259, 22, 2),
  (⟨"Syntaxspan$Desk", "usedFile", "(II)I"⟩, prog_3_method_7_code, (some .int), [], 1, 1269, 209, 1267, 1268, 2),
  (⟨"Syntaxspan$Desk", "sameText", "(II)Z"⟩, prog_3_method_8_code, (some .boolean), [], 1, 1264, 209, 1262, 1263, 2),
  (⟨"Syntaxspan$Desk", "isFunction", "(I)Z"⟩, prog_3_method_9_code, (some .boolean), [], 1, 1310, 209, 1308, 1309, 1),
  (⟨"Syntaxspan$Desk", "paramsOf", "(I)I"⟩, prog_3_method_10_code, (some .int), [], 1, 1306, 209, 1304, 1305, 1),
  (⟨"Syntaxspan$Lines", "<init>", "()V"⟩, prog_4_method_1_code, none, [], 2, 258, 210, 257, 0, 0),
  (⟨"Syntaxspan$Lines", "size", "(I)I"⟩, prog_4_method_2_code, (some .int), [], 1, 746, 210, 744, 745, 1),
  (⟨"Syntaxspan$Lines", "sign", "(II)C"⟩, prog_4_method_3_code, (some .char), [], 1, 753, 210, 751, 752, 2),
  (⟨"Syntaxspan$Lines", "put", "(IIC)V"⟩, prog_4_method_4_code, none, [], 1, 1498, 210, 1496, 1497, 3),
  (⟨"Syntaxspan$Lines", "take", "(II)C"⟩, prog_4_method_5_code, (some .char), [], 1, 1589, 210, 1587, 1588, 2),
  (⟨"Syntaxspan$Lines", "wipe", "(I)V"⟩, prog_4_method_6_code, none, [], 1, 1450, 210, 1448, 1449, 1),
  (⟨"Syntaxspan$Lines", "fill", "(I[CI)V"⟩, prog_4_method_7_code, none, [], 1, 1389, 210, 1387, 1388, 3),
  (⟨"Syntaxspan$Lines", "copyRow", "(LSyntaxspan$Lines;II)V"⟩, prog_4_method_8_code, none, [], 1, 1446, 210, 1444, 1445, 3),
  (⟨"Syntaxspan$Lines", "copyFrom", "(LSyntaxspan$Lines;)V"⟩, prog_4_method_9_code, none, [], 1, 1354, 210, 1352, 1353, 1),
  (⟨"Syntaxspan$Lines", "alike", "(LSyntaxspan$Lines;I)Z"⟩, prog_4_method_10_code, (some .boolean), [], 1, 1650, 210, 1648, 1649, 2),
  (⟨"Syntaxspan$Lines", "numberOrigins", "()V"⟩, prog_4_method_11_code, none, [], 1, 1364, 210, 1362, 1363, 0),
  (⟨"Syntaxspan$Lines", "openRows", "(III)Z"⟩, prog_4_method_12_code, (some .boolean), [], 1, 1440, 210, 1438, 1439, 3),
  (⟨"Syntaxspan$Lines", "closeRows", "(III)V"⟩, prog_4_method_13_code, none, [], 1, 1455, 210, 1453, 1454, 3),
  (⟨"Syntaxspan$Plan", "<init>", "()V"⟩, prog_5_method_1_code, none, [], 2, 636, 219, 635, 0, 0),
  (⟨"Syntaxspan$Plan", "disturb", "()V"⟩, prog_5_method_2_code, none, [], 1, 1574, 219, 1572, 1573, 0),
  (⟨"Syntaxspan$Plan", "wipe", "()I"⟩, prog_5_method_3_code, (some .int), [], 1, 1342, 219, 1340, 1341, 0),
  (⟨"Syntaxspan$Plan", "add", "(IIII)I"⟩, prog_5_method_4_code, (some .int), [], 1, 1980, 219, 1979, 65, 4),
  (⟨"Syntaxspan$Plan", "addRename", "(II[CI)I"⟩, prog_5_method_5_code, (some .int), [], 1, 1976, 219, 1974, 1975, 4),
  (⟨"Syntaxspan$Plan", "addInline", "(II)I"⟩, prog_5_method_6_code, (some .int), [], 1, 1991, 219, 1989, 1990, 2),
  (⟨"Syntaxspan$Plan", "addMove", "(III)I"⟩, prog_5_method_7_code, (some .int), [], 1, 2002, 219, 2000, 2001, 3)]
def m_mds1 : List MD := [(⟨"Syntaxspan$Plan", "against", "(LSyntaxspan$Desk;)I"⟩, prog_5_method_8_code, (some .int), [], 1, 1350, 219, 1348, 1349, 1),
  (⟨"Syntaxspan$Plan", "keepOld", "()V"⟩, prog_5_method_9_code, none, [], 1, 1360, 219, 1359, 30, 0),
  (⟨"Syntaxspan$Plan", "follow", "()V"⟩, prog_5_method_10_code, none, [], 1, 1459, 219, 1458, 41, 0),
  (⟨"Syntaxspan$Plan", "bindsOtherwise", "()Z"⟩, prog_5_method_11_code, (some .boolean), [], 1, 1502, 219, 1501, 44, 0),
  (⟨"Syntaxspan$Plan", "rename", "(I)I"⟩, prog_5_method_12_code, (some .int), [], 1, 1370, 219, 1369, 31, 1),
  (⟨"Syntaxspan$Plan", "rewriteAll", "(IIII)I"⟩, prog_5_method_13_code, (some .int), [], 1, 1375, 219, 1374, 32, 4),
  (⟨"Syntaxspan$Plan", "rewrite", "(IIII)Z"⟩, prog_5_method_14_code, (some .boolean), [], 1, 1379, 219, 1378, 33, 4),
  (⟨"Syntaxspan$Plan", "inline", "(I)I"⟩, prog_5_method_15_code, (some .int), [], 1, 1393, 219, 1392, 34, 1),
  (⟨"Syntaxspan$Plan", "endOfLet", "(II)I"⟩, prog_5_method_16_code, (some .int), [], 1, 1397, 219, 1396, 35, 2),
  (⟨"Syntaxspan$Plan", "calls", "(LSyntaxspan$Tokens;II)Z"⟩, prog_5_method_17_code, (some .boolean), [], 0, 1407, 219, 1406, 0, 3),
  (⟨"Syntaxspan$Plan", "written", "(III)Z"⟩, prog_5_method_18_code, (some .boolean), [], 1, 1412, 219, 1411, 36, 3),
  (⟨"Syntaxspan$Plan", "boundAlike", "(III)Z"⟩, prog_5_method_19_code, (some .boolean), [], 1, 1416, 219, 1415, 37, 3),
  (⟨"Syntaxspan$Plan", "joinText", "(III)V"⟩, prog_5_method_20_code, none, [], 1, 1423, 219, 1422, 38, 3),
  (⟨"Syntaxspan$Plan", "write", "(C)V"⟩, prog_5_method_21_code, none, [], 1, 1427, 219, 1426, 39, 1),
  (⟨"Syntaxspan$Plan", "move", "(I)I"⟩, prog_5_method_22_code, (some .int), [], 1, 1431, 219, 1430, 40, 1),
  (⟨"Syntaxspan$Plan", "needsUse", "(II)Z"⟩, prog_5_method_23_code, (some .boolean), [], 1, 1463, 219, 1462, 42, 2),
  (⟨"Syntaxspan$Plan", "addUse", "(II)I"⟩, prog_5_method_24_code, (some .int), [], 1, 1468, 219, 1467, 43, 2),
  (⟨"Syntaxspan$Reader", "<init>", "(LSyntaxspan$Tree;)V"⟩, prog_6_method_1_code, none, [], 2, 440, 214, 439, 0, 1),
  (⟨"Syntaxspan$Reader", "read", "([IILSyntaxspan$Tree;)V"⟩, prog_6_method_2_code, none, [], 1, 1130, 214, 1128, 1129, 3),
  (⟨"Syntaxspan$Reader", "kind", "(I)I"⟩, prog_6_method_3_code, (some .int), [], 1, 1144, 214, 1143, 6, 1),
  (⟨"Syntaxspan$Reader", "eat", "(I)Z"⟩, prog_6_method_4_code, (some .boolean), [], 1, 1172, 214, 1171, 8, 1),
  (⟨"Syntaxspan$Reader", "beginsItem", "(I)Z"⟩, prog_6_method_5_code, (some .boolean), [], 0, 1147, 214, 1146, 0, 1),
  (⟨"Syntaxspan$Reader", "item", "()V"⟩, prog_6_method_6_code, none, [], 1, 1204, 214, 1203, 16, 0),
  (⟨"Syntaxspan$Reader", "useItem", "()Z"⟩, prog_6_method_7_code, (some .boolean), [], 1, 1208, 214, 1207, 17, 0),
  (⟨"Syntaxspan$Reader", "header", "()Z"⟩, prog_6_method_8_code, (some .boolean), [], 1, 1216, 214, 1215, 18, 0),
  (⟨"Syntaxspan$Reader", "openBlock", "(II)V"⟩, prog_6_method_9_code, none, [], 1, 1176, 214, 1175, 9, 2),
  (⟨"Syntaxspan$Reader", "closeBlock", "(Z)V"⟩, prog_6_method_10_code, none, [], 1, 1151, 214, 1150, 7, 1),
  (⟨"Syntaxspan$Reader", "skip", "()V"⟩, prog_6_method_11_code, none, [], 1, 1180, 214, 1179, 10, 0),
  (⟨"Syntaxspan$Reader", "statement", "()V"⟩, prog_6_method_12_code, none, [], 1, 1140, 214, 1139, 5, 0),
  (⟨"Syntaxspan$Reader", "expr", "(Z)Z"⟩, prog_6_method_13_code, (some .boolean), [], 1, 1184, 214, 1183, 11, 1),
  (⟨"Syntaxspan$Reader", "push", "(II)V"⟩, prog_6_method_14_code, none, [], 1, 1188, 214, 1187, 12, 2),
  (⟨"Syntaxspan$Reader", "operand", "()I"⟩, prog_6_method_15_code, (some .int), [], 1, 1192, 214, 1191, 13, 0),
  (⟨"Syntaxspan$Reader", "behind", "()I"⟩, prog_6_method_16_code, (some .int), [], 1, 1196, 214, 1195, 14, 0),
  (⟨"Syntaxspan$Reader", "closeExpr", "(II)I"⟩, prog_6_method_17_code, (some .int), [], 1, 1200, 214, 1199, 15, 2),
  (⟨"Syntaxspan$Repair", "<init>", "()V"⟩, prog_7_method_1_code, none, [], 2, 565, 216, 564, 0, 0),
  (⟨"Syntaxspan$Repair", "least", "(LSyntaxspan$Tokens;II)I"⟩, prog_7_method_2_code, (some .int), [], 1, 1769, 216, 1767, 1768, 3),
  (⟨"Syntaxspan$Repair", "place", "(III)I"⟩, prog_7_method_3_code, (some .int), [], 0, 1779, 216, 1778, 0, 3),
  (⟨"Syntaxspan$Repair", "begin", "(LSyntaxspan$Tokens;III)V"⟩, prog_7_method_4_code, none, [], 1, 1773, 216, 1772, 50, 4),
  (⟨"Syntaxspan$Repair", "settle", "(II)V"⟩, prog_7_method_5_code, none, [], 1, 1783, 216, 1782, 51, 2),
  (⟨"Syntaxspan$Repair", "costOf", "(IIII)I"⟩, prog_7_method_6_code, (some .int), [], 1, 1789, 216, 1788, 52, 4)]
def m_mds2 : List MD := [(⟨"Syntaxspan$Runner", "<init>", "()V"⟩, prog_8_method_1_code, none, [], 2, 575, 217, 574, 0, 0),
  (⟨"Syntaxspan$Runner", "give", "(LSyntaxspan$Desk;IJJ)J"⟩, prog_8_method_2_code, (some .long), [], 1, 2020, 217, 2018, 2019, 4),
  (⟨"Syntaxspan$Runner", "push", "(J)V"⟩, prog_8_method_3_code, none, [], 1, 2024, 217, 2023, 66, 1),
  (⟨"Syntaxspan$Runner", "pop", "()J"⟩, prog_8_method_4_code, (some .long), [], 1, 2060, 217, 2059, 73, 0),
  (⟨"Syntaxspan$Runner", "enter", "(LSyntaxspan$Desk;II)V"⟩, prog_8_method_5_code, none, [], 1, 2028, 217, 2027, 67, 3),
  (⟨"Syntaxspan$Runner", "leave", "(J)V"⟩, prog_8_method_6_code, none, [], 1, 2071, 217, 2070, 75, 1),
  (⟨"Syntaxspan$Runner", "whole", "(LSyntaxspan$Desk;I)V"⟩, prog_8_method_7_code, none, [], 1, 2067, 217, 2066, 74, 2),
  (⟨"Syntaxspan$Runner", "part", "(LSyntaxspan$Desk;I)V"⟩, prog_8_method_8_code, none, [], 1, 2038, 217, 2037, 68, 2),
  (⟨"Syntaxspan$Runner", "pair", "(IJJ)J"⟩, prog_8_method_9_code, (some .long), [], 0, 2063, 217, 2062, 0, 3),
  (⟨"Syntaxspan$Runner", "number", "(LSyntaxspan$Desk;I)J"⟩, prog_8_method_10_code, (some .long), [], 1, 2042, 217, 2041, 69, 2),
  (⟨"Syntaxspan$Runner", "slotAt", "(I)I"⟩, prog_8_method_11_code, (some .int), [], 1, 2052, 217, 2051, 71, 1),
  (⟨"Syntaxspan$Runner", "read", "(I)J"⟩, prog_8_method_12_code, (some .long), [], 1, 2048, 217, 2047, 70, 1),
  (⟨"Syntaxspan$Runner", "store", "(IJ)V"⟩, prog_8_method_13_code, none, [], 1, 2075, 217, 2074, 76, 2),
  (⟨"Syntaxspan$Runner", "call", "(LSyntaxspan$Desk;II)V"⟩, prog_8_method_14_code, none, [], 1, 2056, 217, 2055, 72, 3),
  (⟨"Syntaxspan$Runner", "print", "(LSyntaxspan$Tokens;LSyntaxspan$Tree;)J"⟩, prog_8_method_15_code, (some .long), [], 1, 1801, 217, 1799, 1800, 2),
  (⟨"Syntaxspan$Runner", "numberOf", "(I)I"⟩, prog_8_method_16_code, (some .int), [], 0, 1824, 217, 1823, 0, 1),
  (⟨"Syntaxspan$Runner", "printPart", "(LSyntaxspan$Tokens;IZ)V"⟩, prog_8_method_17_code, none, [], 1, 1807, 217, 1806, 53, 3),
  (⟨"Syntaxspan$Runner", "stack", "(JJ)V"⟩, prog_8_method_18_code, none, [], 1, 1813, 217, 1812, 54, 2),
  (⟨"Syntaxspan$Runner", "join", "(III)V"⟩, prog_8_method_19_code, none, [], 1, 1818, 217, 1817, 55, 3),
  (⟨"Syntaxspan$Scope", "<init>", "()V"⟩, prog_9_method_1_code, none, [], 2, 282, 211, 281, 0, 0),
  (⟨"Syntaxspan$Scope", "begin", "()V"⟩, prog_9_method_2_code, none, [], 1, 1231, 211, 1229, 1230, 0),
  (⟨"Syntaxspan$Scope", "step", "(I)V"⟩, prog_9_method_3_code, none, [], 1, 1241, 211, 1239, 1240, 1),
  (⟨"Syntaxspan$Scope", "find", "(LSyntaxspan$Desk;II)I"⟩, prog_9_method_4_code, (some .int), [], 1, 1277, 211, 1275, 1276, 3),
  (⟨"Syntaxspan$Tokens", "<init>", "()V"⟩, prog_10_method_1_code, none, [], 2, 310, 212, 309, 0, 0),
  (⟨"Syntaxspan$Tokens", "kind", "(I)I"⟩, prog_10_method_2_code, (some .int), [], 1, 1273, 212, 1271, 1272, 1),
  (⟨"Syntaxspan$Tokens", "line", "(I)I"⟩, prog_10_method_3_code, (some .int), [], 1, 1404, 212, 1402, 1403, 1),
  (⟨"Syntaxspan$Tokens", "told", "(I)I"⟩, prog_10_method_4_code, (some .int), [], 1, 1696, 212, 1694, 1695, 1),
  (⟨"Syntaxspan$Tokens", "owner", "(II)I"⟩, prog_10_method_5_code, (some .int), [], 1, 1384, 212, 1382, 1383, 2),
  (⟨"Syntaxspan$Tokens", "endsInside", "(I)Z"⟩, prog_10_method_6_code, (some .boolean), [], 1, 1436, 212, 1434, 1435, 1),
  (⟨"Syntaxspan$Tokens", "afterEdit", "(LSyntaxspan$Lines;II)I"⟩, prog_10_method_7_code, (some .int), [], 1, 1566, 212, 1564, 1565, 3),
  (⟨"Syntaxspan$Tokens", "endOf", "(LSyntaxspan$Lines;IZ)Z"⟩, prog_10_method_8_code, (some .boolean), [], 0, 1570, 212, 1569, 0, 3),
  (⟨"Syntaxspan$Tokens", "turns", "(LSyntaxspan$Lines;IIZ)Z"⟩, prog_10_method_9_code, (some .boolean), [], 0, 749, 212, 748, 0, 4),
  (⟨"Syntaxspan$Tokens", "gather", "(LSyntaxspan$Lines;I)V"⟩, prog_10_method_10_code, none, [], 1, 738, 212, 736, 737, 2),
  (⟨"Syntaxspan$Tokens", "gatherLine", "(LSyntaxspan$Lines;IIZ)Z"⟩, prog_10_method_11_code, (some .boolean), [], 1, 742, 212, 741, 1, 4),
  (⟨"Syntaxspan$Tokens", "add", "(IIII)V"⟩, prog_10_method_12_code, none, [], 1, 781, 212, 780, 2, 4),
  (⟨"Syntaxspan$Tokens", "spanAt", "(LSyntaxspan$Lines;II)I"⟩, prog_10_method_13_code, (some .int), [], 0, 756, 212, 755, 0, 3),
  (⟨"Syntaxspan$Tokens", "classAt", "(LSyntaxspan$Lines;III)I"⟩, prog_10_method_14_code, (some .int), [], 0, 765, 212, 764, 0, 4),
  (⟨"Syntaxspan$Tokens", "pairBrackets", "()V"⟩, prog_10_method_15_code, none, [], 1, 1126, 212, 1125, 4, 0),
  (⟨"Syntaxspan$Tokens", "foldedTo", "(I)I"⟩, prog_10_method_16_code, (some .int), [], 1, 1739, 212, 1737, 1738, 1),
  (⟨"Syntaxspan$Tree", "<init>", "()V"⟩, prog_11_method_1_code, none, [], 2, 363, 213, 362, 0, 0)]
def m_mds3 : List MD := [(⟨"Syntaxspan$Tree", "begin", "()V"⟩, prog_11_method_2_code, none, [], 1, 1136, 213, 1134, 1135, 0),
  (⟨"Syntaxspan$Tree", "emit", "(III)V"⟩, prog_11_method_3_code, none, [], 1, 1159, 213, 1157, 1158, 3),
  (⟨"Syntaxspan$Tree", "aim", "(II)V"⟩, prog_11_method_4_code, none, [], 1, 1167, 213, 1165, 1166, 2),
  (⟨"Syntaxspan$Tree", "tell", "(III)V"⟩, prog_11_method_5_code, none, [], 1, 1155, 213, 1153, 1154, 3),
  (⟨"Syntaxspan$Tree", "tells", "(I)Z"⟩, prog_11_method_6_code, (some .boolean), [], 1, 1851, 213, 1849, 1850, 1),
  (⟨"Syntaxspan$Tree", "addFunction", "(II)V"⟩, prog_11_method_7_code, none, [], 1, 1220, 213, 1218, 1219, 2),
  (⟨"Syntaxspan$Tree", "endFunction", "(I)V"⟩, prog_11_method_8_code, none, [], 1, 1163, 213, 1161, 1162, 1),
  (⟨"Syntaxspan$Tree", "addUse", "(I)V"⟩, prog_11_method_9_code, none, [], 1, 1212, 213, 1210, 1211, 1),
  (⟨"Syntaxspan$Tree", "functionOf", "(I)I"⟩, prog_11_method_10_code, (some .int), [], 1, 1314, 213, 1312, 1313, 1),
  (⟨"Syntaxspan$Types", "<init>", "()V"⟩, prog_12_method_1_code, none, [], 2, 538, 215, 537, 0, 0),
  (⟨"Syntaxspan$Types", "findAll", "(LSyntaxspan$Desk;)V"⟩, prog_12_method_2_code, none, [], 1, 1282, 215, 1280, 1281, 1),
  (⟨"Syntaxspan$Types", "whole", "(LSyntaxspan$Desk;III)V"⟩, prog_12_method_3_code, none, [], 1, 1330, 215, 1329, 29, 4),
  (⟨"Syntaxspan$Types", "part", "(LSyntaxspan$Desk;II)V"⟩, prog_12_method_4_code, none, [], 1, 1288, 215, 1287, 23, 3),
  (⟨"Syntaxspan$Types", "call", "(LSyntaxspan$Desk;II)V"⟩, prog_12_method_5_code, none, [], 1, 1301, 215, 1300, 25, 3),
  (⟨"Syntaxspan$Types", "push", "(II)V"⟩, prog_12_method_6_code, none, [], 1, 1296, 215, 1295, 24, 2),
  (⟨"Syntaxspan$Types", "slotOf", "(LSyntaxspan$Desk;I)I"⟩, prog_12_method_7_code, (some .int), [], 0, 1292, 215, 1291, 0, 2),
  (⟨"Syntaxspan$Types", "alike", "(III)V"⟩, prog_12_method_8_code, none, [], 1, 1322, 215, 1321, 27, 3),
  (⟨"Syntaxspan$Types", "tell", "(I)V"⟩, prog_12_method_9_code, none, [], 1, 1318, 215, 1317, 26, 1),
  (⟨"Syntaxspan$Types", "headOf", "(I)I"⟩, prog_12_method_10_code, (some .int), [], 1, 1326, 215, 1325, 28, 1),
  (⟨"Syntaxspan$Types", "typeAt", "(I)I"⟩, prog_12_method_11_code, (some .int), [], 1, 1897, 215, 1895, 1896, 1),
  (⟨"Syntaxspan", "<init>", "()V"⟩, prog_1_method_1_code, none, [], 2, 244, 208, 243, 0, 0),
  (⟨"Syntaxspan", "insert", "(IIIC)I"⟩, prog_1_method_2_code, (some .int), [], 1, 1512, 208, 1510, 1511, 4),
  (⟨"Syntaxspan", "erase", "(III)C"⟩, prog_1_method_3_code, (some .char), [], 1, 1581, 208, 1579, 1580, 3),
  (⟨"Syntaxspan", "paste", "(III)I"⟩, prog_1_method_4_code, (some .int), [], 1, 1596, 208, 1594, 1595, 3),
  (⟨"Syntaxspan", "clear", "(II)I"⟩, prog_1_method_5_code, (some .int), [], 1, 1632, 208, 1630, 1631, 2),
  (⟨"Syntaxspan", "save", "(I)I"⟩, prog_1_method_6_code, (some .int), [], 1, 1640, 208, 1638, 1639, 1),
  (⟨"Syntaxspan", "back", "(I)I"⟩, prog_1_method_7_code, (some .int), [], 1, 1659, 208, 1657, 1658, 1),
  (⟨"Syntaxspan", "charAt", "(III)C"⟩, prog_1_method_8_code, (some .char), [], 1, 1666, 208, 1664, 1665, 3),
  (⟨"Syntaxspan", "length", "(II)I"⟩, prog_1_method_9_code, (some .int), [], 1, 1674, 208, 1672, 1673, 2),
  (⟨"Syntaxspan", "relexed", "()I"⟩, prog_1_method_10_code, (some .int), [], 1, 722, 208, 720, 721, 0),
  (⟨"Syntaxspan", "tokens", "(I)I"⟩, prog_1_method_11_code, (some .int), [], 1, 1681, 208, 1679, 1680, 1),
  (⟨"Syntaxspan", "token", "(II)I"⟩, prog_1_method_12_code, (some .int), [], 1, 1688, 208, 1686, 1687, 2),
  (⟨"Syntaxspan", "tokenAnew", "(II)I"⟩, prog_1_method_13_code, (some .int), [], 1, 1703, 208, 1701, 1702, 2),
  (⟨"Syntaxspan", "colour", "(III)I"⟩, prog_1_method_14_code, (some .int), [], 1, 1715, 208, 1713, 1714, 3),
  (⟨"Syntaxspan", "partner", "(II)I"⟩, prog_1_method_15_code, (some .int), [], 1, 1728, 208, 1726, 1727, 2),
  (⟨"Syntaxspan", "fold", "(II)I"⟩, prog_1_method_16_code, (some .int), [], 1, 1735, 208, 1733, 1734, 2),
  (⟨"Syntaxspan", "errors", "(I)I"⟩, prog_1_method_17_code, (some .int), [], 1, 1747, 208, 1745, 1746, 1),
  (⟨"Syntaxspan", "errorAt", "(II)I"⟩, prog_1_method_18_code, (some .int), [], 1, 1754, 208, 1752, 1753, 2),
  (⟨"Syntaxspan", "repair", "(II)I"⟩, prog_1_method_19_code, (some .int), [], 1, 1765, 208, 1763, 1764, 2),
  (⟨"Syntaxspan", "tree", "(I)J"⟩, prog_1_method_20_code, (some .long), [], 1, 1797, 208, 1795, 1796, 1)]
def m_mds4 : List MD := [(⟨"Syntaxspan", "may", "(II)I"⟩, prog_1_method_21_code, (some .int), [], 1, 1831, 208, 1829, 1830, 2),
  (⟨"Syntaxspan", "functions", "(I)I"⟩, prog_1_method_22_code, (some .int), [], 1, 1858, 208, 1856, 1857, 1),
  (⟨"Syntaxspan", "functionAt", "(II)I"⟩, prog_1_method_23_code, (some .int), [], 1, 1865, 208, 1863, 1864, 2),
  (⟨"Syntaxspan", "binding", "(II)I"⟩, prog_1_method_24_code, (some .int), [], 1, 1876, 208, 1874, 1875, 2),
  (⟨"Syntaxspan", "bindingAnew", "(II)I"⟩, prog_1_method_25_code, (some .int), [], 1, 1886, 208, 1884, 1885, 2),
  (⟨"Syntaxspan", "typeOf", "(II)I"⟩, prog_1_method_26_code, (some .int), [], 1, 1893, 208, 1891, 1892, 2),
  (⟨"Syntaxspan", "typeErrors", "()I"⟩, prog_1_method_27_code, (some .int), [], 1, 726, 208, 724, 725, 0),
  (⟨"Syntaxspan", "typeErrorAt", "(I)I"⟩, prog_1_method_28_code, (some .int), [], 1, 1904, 208, 1902, 1903, 1),
  (⟨"Syntaxspan", "spell", "(C)I"⟩, prog_1_method_29_code, (some .int), [], 1, 1911, 208, 1909, 1910, 1),
  (⟨"Syntaxspan", "clearName", "()I"⟩, prog_1_method_30_code, (some .int), [], 1, 1334, 208, 1332, 1333, 0),
  (⟨"Syntaxspan", "completions", "(II)I"⟩, prog_1_method_31_code, (some .int), [], 1, 1918, 208, 1916, 1917, 2),
  (⟨"Syntaxspan", "completionAt", "(III)I"⟩, prog_1_method_32_code, (some .int), [], 1, 1961, 208, 1959, 1960, 3),
  (⟨"Syntaxspan", "planRename", "(II)I"⟩, prog_1_method_33_code, (some .int), [], 1, 1968, 208, 1966, 1967, 2),
  (⟨"Syntaxspan", "planInline", "(II)I"⟩, prog_1_method_34_code, (some .int), [], 1, 1987, 208, 1985, 1986, 2),
  (⟨"Syntaxspan", "planMove", "(III)I"⟩, prog_1_method_35_code, (some .int), [], 1, 1998, 208, 1996, 1997, 3),
  (⟨"Syntaxspan", "clearPlan", "()I"⟩, prog_1_method_36_code, (some .int), [], 1, 1338, 208, 1336, 1337, 0),
  (⟨"Syntaxspan", "reason", "()I"⟩, prog_1_method_37_code, (some .int), [], 1, 1346, 208, 1344, 1345, 0),
  (⟨"Syntaxspan", "carryOut", "()I"⟩, prog_1_method_38_code, (some .int), [], 1, 2009, 208, 2007, 2008, 0),
  (⟨"Syntaxspan", "run", "(IIII)J"⟩, prog_1_method_39_code, (some .long), [], 1, 2016, 208, 2014, 2015, 4),
  (⟨"Syntaxspan", "needFile", "(I)V"⟩, prog_1_method_40_code, none, [], 0, 1643, 208, 1642, 0, 1),
  (⟨"Syntaxspan", "needLine", "(II)V"⟩, prog_1_method_41_code, none, [], 0, 1515, 208, 1514, 0, 2),
  (⟨"Syntaxspan", "needColumn", "(III)V"⟩, prog_1_method_42_code, none, [], 1, 1585, 208, 1584, 46, 3),
  (⟨"Syntaxspan", "needToken", "(II)V"⟩, prog_1_method_43_code, none, [], 1, 1692, 208, 1691, 47, 2),
  (⟨"Syntaxspan", "needPlace", "(II)V"⟩, prog_1_method_44_code, none, [], 1, 1835, 208, 1834, 56, 2),
  (⟨"Syntaxspan", "needError", "(II)V"⟩, prog_1_method_45_code, none, [], 1, 1758, 208, 1757, 49, 2),
  (⟨"Syntaxspan", "needFunction", "(II)V"⟩, prog_1_method_46_code, none, [], 1, 1869, 208, 1868, 58, 2),
  (⟨"Syntaxspan", "needRoom", "()V"⟩, prog_1_method_47_code, none, [], 1, 1972, 208, 1971, 64, 0),
  (⟨"Syntaxspan", "changed", "(IIZ)V"⟩, prog_1_method_48_code, none, [], 1, 1562, 208, 1561, 45, 3),
  (⟨"Syntaxspan", "fresh", "()LSyntaxspan$Desk;"⟩, prog_1_method_49_code, (some (.object "Syntaxspan$Desk")), [], 1, 730, 208, 729, 0, 0),
  (⟨"Syntaxspan", "anew", "()V"⟩, prog_1_method_50_code, none, [], 1, 1707, 208, 1706, 48, 0),
  (⟨"Syntaxspan", "copyFile", "(LSyntaxspan$Lines;LSyntaxspan$Lines;I)I"⟩, prog_1_method_51_code, (some .int), [], 0, 1646, 208, 1645, 0, 3),
  (⟨"Syntaxspan", "toldId", "(I)I"⟩, prog_1_method_52_code, (some .int), [], 0, 1879, 208, 1878, 0, 1),
  (⟨"Syntaxspan", "colourOf", "(LSyntaxspan$Desk;II)I"⟩, prog_1_method_53_code, (some .int), [], 0, 1719, 208, 1718, 0, 3),
  (⟨"Syntaxspan", "fragmentText", "(I)Ljava/lang/String;"⟩, prog_1_method_54_code, (some (.object "java/lang/String")), [], 0, 1599, 208, 1598, 0, 1),
  (⟨"Syntaxspan", "kindOfSign", "(C)I"⟩, prog_1_method_56_code, (some .int), [], 0, 775, 208, 774, 0, 1),
  (⟨"Syntaxspan", "kindOfWord", "([CII)I"⟩, prog_1_method_55_code, (some .int), [], 0, 768, 208, 767, 0, 3),
  (⟨"Syntaxspan", "isLetter", "(C)Z"⟩, prog_1_method_57_code, (some .boolean), [], 0, 759, 208, 758, 0, 1),
  (⟨"Syntaxspan", "isDigit", "(C)Z"⟩, prog_1_method_58_code, (some .boolean), [], 0, 762, 208, 761, 0, 1),
  (⟨"Syntaxspan", "opOf", "(I)I"⟩, prog_1_method_59_code, (some .int), [], 0, 1234, 208, 1233, 0, 1),
  (⟨"Syntaxspan", "tokenOf", "(I)I"⟩, prog_1_method_60_code, (some .int), [], 0, 1237, 208, 1236, 0, 1)]
def m_mds5 : List MD := [(⟨"Syntaxspan", "extraOf", "(I)I"⟩, prog_1_method_61_code, (some .int), [], 0, 1247, 208, 1246, 0, 1),
  (⟨"SyntaxspanModel", "<init>", "()V"⟩, prog_14_method_1_code, none, [], 2, 2080, 220, 2079, 0, 0),
  (⟨"SyntaxspanModel", "thrown", "()I"⟩, prog_14_method_2_code, (some .int), [], 1, 2440, 220, 2438, 2439, 0),
  (⟨"SyntaxspanModel", "in", "(III)Z"⟩, prog_14_method_3_code, (some .boolean), [], 0, 2454, 220, 2453, 0, 3),
  (⟨"SyntaxspanModel", "isFile", "(I)Z"⟩, prog_14_method_4_code, (some .boolean), [], 0, 2451, 220, 2450, 0, 1),
  (⟨"SyntaxspanModel", "isLine", "(II)Z"⟩, prog_14_method_5_code, (some .boolean), [], 0, 2739, 220, 2738, 0, 2),
  (⟨"SyntaxspanModel", "at", "(II)I"⟩, prog_14_method_6_code, (some .int), [], 1, 2478, 220, 2477, 83, 2),
  (⟨"SyntaxspanModel", "isLetter", "(I)Z"⟩, prog_14_method_7_code, (some .boolean), [], 0, 2492, 220, 2491, 0, 1),
  (⟨"SyntaxspanModel", "isDigit", "(I)Z"⟩, prog_14_method_8_code, (some .boolean), [], 0, 2499, 220, 2498, 0, 1),
  (⟨"SyntaxspanModel", "pack", "(IIII)I"⟩, prog_14_method_9_code, (some .int), [], 0, 2505, 220, 2504, 0, 4),
  (⟨"SyntaxspanModel", "wordClass", "(I)I"⟩, prog_14_method_10_code, (some .int), [], 0, 2502, 220, 2501, 0, 1),
  (⟨"SyntaxspanModel", "signClass", "(I)I"⟩, prog_14_method_11_code, (some .int), [], 0, 2489, 220, 2488, 0, 1),
  (⟨"SyntaxspanModel", "addToken", "(IIIII)V"⟩, prog_14_method_12_code, none, [], 1, 2509, 220, 2508, 87, 5),
  (⟨"SyntaxspanModel", "commentEnd", "(II)I"⟩, prog_14_method_13_code, (some .int), [], 1, 2482, 220, 2481, 84, 2),
  (⟨"SyntaxspanModel", "longest", "(IIZ)I"⟩, prog_14_method_14_code, (some .int), [], 1, 2496, 220, 2495, 86, 3),
  (⟨"SyntaxspanModel", "layToken", "(III)I"⟩, prog_14_method_15_code, (some .int), [], 1, 2486, 220, 2485, 85, 3),
  (⟨"SyntaxspanModel", "lexLine", "(IIZ)Z"⟩, prog_14_method_16_code, (some .boolean), [], 1, 2474, 220, 2473, 82, 3),
  (⟨"SyntaxspanModel", "lex", "(I)V"⟩, prog_14_method_17_code, none, [], 1, 2470, 220, 2469, 81, 1),
  (⟨"SyntaxspanModel", "lexAll", "()V"⟩, prog_14_method_18_code, none, [], 1, 2466, 220, 2465, 80, 0),
  (⟨"SyntaxspanModel", "codeOf", "(II)I"⟩, prog_14_method_19_code, (some .int), [], 1, 2659, 220, 2658, 123, 2),
  (⟨"SyntaxspanModel", "areAlike", "(II)Z"⟩, prog_14_method_20_code, (some .boolean), [], 1, 2655, 220, 2654, 122, 2),
  (⟨"SyntaxspanModel", "make", "(II)I"⟩, prog_14_method_21_code, (some .int), [], 1, 2529, 220, 2528, 92, 2),
  (⟨"SyntaxspanModel", "tellError", "(III)V"⟩, prog_14_method_22_code, none, [], 1, 2549, 220, 2548, 97, 3),
  (⟨"SyntaxspanModel", "rank", "(I)I"⟩, prog_14_method_23_code, (some .int), [], 0, 2591, 220, 2590, 0, 1),
  (⟨"SyntaxspanModel", "pair", "()V"⟩, prog_14_method_24_code, none, [], 1, 2595, 220, 2594, 107, 0),
  (⟨"SyntaxspanModel", "pairAll", "(I)V"⟩, prog_14_method_25_code, none, [], 1, 2588, 220, 2587, 106, 1),
  (⟨"SyntaxspanModel", "put", "(I)V"⟩, prog_14_method_26_code, none, [], 1, 2607, 220, 2606, 110, 1),
  (⟨"SyntaxspanModel", "putPlain", "(II)V"⟩, prog_14_method_27_code, none, [], 1, 2603, 220, 2602, 109, 2),
  (⟨"SyntaxspanModel", "openBracket", "(I)V"⟩, prog_14_method_28_code, none, [], 1, 2611, 220, 2610, 111, 1),
  (⟨"SyntaxspanModel", "addArgument", "()V"⟩, prog_14_method_29_code, none, [], 1, 2599, 220, 2598, 108, 0),
  (⟨"SyntaxspanModel", "closeBracket", "(ZI)V"⟩, prog_14_method_30_code, none, [], 1, 2584, 220, 2583, 105, 2),
  (⟨"SyntaxspanModel", "takesUnit", "(Z)Z"⟩, prog_14_method_31_code, (some .boolean), [], 1, 2580, 220, 2579, 104, 1),
  (⟨"SyntaxspanModel", "goesOn", "()Z"⟩, prog_14_method_32_code, (some .boolean), [], 1, 2615, 220, 2614, 112, 0),
  (⟨"SyntaxspanModel", "readExpr", "(Z)V"⟩, prog_14_method_33_code, none, [], 1, 2576, 220, 2575, 103, 1),
  (⟨"SyntaxspanModel", "beginsItem", "(I)Z"⟩, prog_14_method_34_code, (some .boolean), [], 0, 2552, 220, 2551, 0, 1),
  (⟨"SyntaxspanModel", "addItem", "(I)V"⟩, prog_14_method_35_code, none, [], 1, 2533, 220, 2532, 93, 1),
  (⟨"SyntaxspanModel", "failItem", "(I)V"⟩, prog_14_method_36_code, none, [], 1, 2545, 220, 2544, 96, 1),
  (⟨"SyntaxspanModel", "openBlock", "(III)V"⟩, prog_14_method_37_code, none, [], 1, 2537, 220, 2536, 94, 3),
  (⟨"SyntaxspanModel", "addStatement", "(I)V"⟩, prog_14_method_38_code, none, [], 1, 2541, 220, 2540, 95, 1),
  (⟨"SyntaxspanModel", "readFunction", "()V"⟩, prog_14_method_39_code, none, [], 1, 2525, 220, 2524, 91, 0)]
def m_mds6 : List MD := [(⟨"SyntaxspanModel", "readItem", "()V"⟩, prog_14_method_40_code, none, [], 1, 2521, 220, 2520, 90, 0),
  (⟨"SyntaxspanModel", "skip", "()V"⟩, prog_14_method_41_code, none, [], 1, 2564, 220, 2563, 100, 0),
  (⟨"SyntaxspanModel", "breakStatement", "(II)V"⟩, prog_14_method_42_code, none, [], 1, 2568, 220, 2567, 101, 2),
  (⟨"SyntaxspanModel", "closeBlock", "(I)V"⟩, prog_14_method_43_code, none, [], 1, 2560, 220, 2559, 99, 1),
  (⟨"SyntaxspanModel", "readRest", "(IIIII)V"⟩, prog_14_method_44_code, none, [], 1, 2572, 220, 2571, 102, 5),
  (⟨"SyntaxspanModel", "readStatement", "()V"⟩, prog_14_method_45_code, none, [], 1, 2556, 220, 2555, 98, 0),
  (⟨"SyntaxspanModel", "read", "()V"⟩, prog_14_method_46_code, none, [], 1, 2517, 220, 2516, 89, 0),
  (⟨"SyntaxspanModel", "laySeq", "(II)V"⟩, prog_14_method_47_code, none, [], 1, 2513, 220, 2512, 88, 2),
  (⟨"SyntaxspanModel", "readAll", "()V"⟩, prog_14_method_48_code, none, [], 1, 2462, 220, 2461, 79, 0),
  (⟨"SyntaxspanModel", "later", "(II)V"⟩, prog_14_method_49_code, none, [], 1, 2631, 220, 2630, 116, 2),
  (⟨"SyntaxspanModel", "openStatement", "(I)V"⟩, prog_14_method_50_code, none, [], 1, 2635, 220, 2634, 117, 1),
  (⟨"SyntaxspanModel", "openExpr", "(I)V"⟩, prog_14_method_51_code, none, [], 1, 2639, 220, 2638, 118, 1),
  (⟨"SyntaxspanModel", "layOrder", "(I)V"⟩, prog_14_method_52_code, none, [], 1, 2627, 220, 2626, 115, 1),
  (⟨"SyntaxspanModel", "functionNamed", "(II)I"⟩, prog_14_method_53_code, (some .int), [], 1, 2671, 220, 2670, 126, 2),
  (⟨"SyntaxspanModel", "usedBy", "(II)I"⟩, prog_14_method_54_code, (some .int), [], 1, 2675, 220, 2674, 127, 2),
  (⟨"SyntaxspanModel", "functionFor", "(II)I"⟩, prog_14_method_55_code, (some .int), [], 1, 2667, 220, 2666, 125, 2),
  (⟨"SyntaxspanModel", "parameterFor", "(III)I"⟩, prog_14_method_56_code, (some .int), [], 1, 2663, 220, 2662, 124, 3),
  (⟨"SyntaxspanModel", "variableIn", "(IIII)I"⟩, prog_14_method_57_code, (some .int), [], 1, 2651, 220, 2650, 121, 4),
  (⟨"SyntaxspanModel", "variableFor", "(III)I"⟩, prog_14_method_58_code, (some .int), [], 1, 2647, 220, 2646, 120, 3),
  (⟨"SyntaxspanModel", "isOfStatements", "(I)Z"⟩, prog_14_method_59_code, (some .boolean), [], 1, 2643, 220, 2642, 119, 1),
  (⟨"SyntaxspanModel", "bindFunction", "(II)V"⟩, prog_14_method_60_code, none, [], 1, 2623, 220, 2622, 114, 2),
  (⟨"SyntaxspanModel", "bindAll", "()V"⟩, prog_14_method_61_code, none, [], 1, 2619, 220, 2618, 113, 0),
  (⟨"SyntaxspanModel", "look", "()V"⟩, prog_14_method_62_code, none, [], 1, 2458, 220, 2457, 78, 0),
  (⟨"SyntaxspanModel", "root", "(I)I"⟩, prog_14_method_63_code, (some .int), [], 1, 2976, 220, 2975, 172, 1),
  (⟨"SyntaxspanModel", "thing", "(I)I"⟩, prog_14_method_64_code, (some .int), [], 0, 2968, 220, 2967, 0, 1),
  (⟨"SyntaxspanModel", "mistake", "(II)V"⟩, prog_14_method_65_code, none, [], 1, 2980, 220, 2979, 173, 2),
  (⟨"SyntaxspanModel", "makeType", "(III)V"⟩, prog_14_method_66_code, none, [], 1, 2984, 220, 2983, 174, 3),
  (⟨"SyntaxspanModel", "makeAlike", "(III)V"⟩, prog_14_method_67_code, none, [], 1, 2972, 220, 2971, 171, 3),
  (⟨"SyntaxspanModel", "typePair", "(II)V"⟩, prog_14_method_68_code, none, [], 1, 2965, 220, 2964, 170, 2),
  (⟨"SyntaxspanModel", "many", "(I)I"⟩, prog_14_method_69_code, (some .int), [], 1, 2721, 220, 2720, 138, 1),
  (⟨"SyntaxspanModel", "functionNode", "(I)I"⟩, prog_14_method_70_code, (some .int), [], 1, 2687, 220, 2686, 130, 1),
  (⟨"SyntaxspanModel", "typeCall", "(II)V"⟩, prog_14_method_71_code, none, [], 1, 2988, 220, 2987, 175, 2),
  (⟨"SyntaxspanModel", "typeNode", "(III)V"⟩, prog_14_method_72_code, none, [], 1, 2961, 220, 2960, 169, 3),
  (⟨"SyntaxspanModel", "typeAll", "()V"⟩, prog_14_method_73_code, none, [], 1, 2957, 220, 2956, 168, 0),
  (⟨"SyntaxspanModel", "printNumber", "(I)V"⟩, prog_14_method_74_code, none, [], 1, 2919, 220, 2918, 165, 1),
  (⟨"SyntaxspanModel", "printLater", "(I)V"⟩, prog_14_method_75_code, none, [], 1, 2915, 220, 2914, 164, 1),
  (⟨"SyntaxspanModel", "printNode", "(IZ)V"⟩, prog_14_method_76_code, none, [], 1, 2924, 220, 2923, 166, 2),
  (⟨"SyntaxspanModel", "printOf", "(I)J"⟩, prog_14_method_77_code, (some .long), [], 1, 2910, 220, 2909, 163, 1),
  (⟨"SyntaxspanModel", "task", "(II)V"⟩, prog_14_method_78_code, none, [], 1, 2699, 220, 2698, 133, 2),
  (⟨"SyntaxspanModel", "give", "(J)V"⟩, prog_14_method_79_code, none, [], 1, 2679, 220, 2678, 128, 1)]
def m_mds7 : List MD := [(⟨"SyntaxspanModel", "taken", "()J"⟩, prog_14_method_80_code, (some .long), [], 1, 2725, 220, 2724, 139, 0),
  (⟨"SyntaxspanModel", "cell", "(I)I"⟩, prog_14_method_81_code, (some .int), [], 1, 2691, 220, 2690, 131, 1),
  (⟨"SyntaxspanModel", "here", "(I)I"⟩, prog_14_method_82_code, (some .int), [], 1, 2695, 220, 2694, 132, 1),
  (⟨"SyntaxspanModel", "doStatement", "(I)V"⟩, prog_14_method_83_code, none, [], 1, 2707, 220, 2706, 135, 1),
  (⟨"SyntaxspanModel", "plainValue", "(I)J"⟩, prog_14_method_84_code, (some .long), [], 1, 2715, 220, 2714, 137, 1),
  (⟨"SyntaxspanModel", "doExpr", "(I)V"⟩, prog_14_method_85_code, none, [], 1, 2711, 220, 2710, 136, 1),
  (⟨"SyntaxspanModel", "pairValue", "(IJJ)J"⟩, prog_14_method_86_code, (some .long), [], 0, 2728, 220, 2727, 0, 3),
  (⟨"SyntaxspanModel", "enter", "(II)V"⟩, prog_14_method_87_code, none, [], 1, 2683, 220, 2682, 129, 2),
  (⟨"SyntaxspanModel", "doCall", "(I)V"⟩, prog_14_method_88_code, none, [], 1, 2732, 220, 2731, 140, 1),
  (⟨"SyntaxspanModel", "doTask", "(II)V"⟩, prog_14_method_89_code, none, [], 1, 2703, 220, 2702, 134, 2),
  (⟨"SyntaxspanModel", "run", "(IIII)J"⟩, prog_14_method_90_code, (some .long), [], 1, 2444, 220, 2442, 2443, 4),
  (⟨"SyntaxspanModel", "functionOf", "(II)I"⟩, prog_14_method_91_code, (some .int), [], 1, 2448, 220, 2447, 77, 2),
  (⟨"SyntaxspanModel", "costOf", "(III)I"⟩, prog_14_method_92_code, (some .int), [], 1, 2898, 220, 2897, 161, 3),
  (⟨"SyntaxspanModel", "setCost", "(IIII)V"⟩, prog_14_method_93_code, none, [], 1, 2890, 220, 2889, 159, 4),
  (⟨"SyntaxspanModel", "isOf", "(II)Z"⟩, prog_14_method_94_code, (some .boolean), [], 0, 2886, 220, 2885, 0, 2),
  (⟨"SyntaxspanModel", "layTerminals", "()V"⟩, prog_14_method_95_code, none, [], 1, 2883, 220, 2882, 158, 0),
  (⟨"SyntaxspanModel", "couple", "(III)V"⟩, prog_14_method_96_code, none, [], 1, 2894, 220, 2893, 160, 3),
  (⟨"SyntaxspanModel", "canBe", "(II)V"⟩, prog_14_method_97_code, none, [], 1, 2902, 220, 2901, 162, 2),
  (⟨"SyntaxspanModel", "repairOfRun", "()I"⟩, prog_14_method_98_code, (some .int), [], 1, 2879, 220, 2878, 157, 0),
  (⟨"SyntaxspanModel", "errsWith", "(III)Z"⟩, prog_14_method_99_code, (some .boolean), [], 1, 2932, 220, 2931, 167, 3),
  (⟨"SyntaxspanModel", "isSpelled", "(I)Z"⟩, prog_14_method_100_code, (some .boolean), [], 1, 3024, 220, 3023, 179, 1),
  (⟨"SyntaxspanModel", "addToScope", "(II)V"⟩, prog_14_method_101_code, none, [], 1, 3020, 220, 3019, 178, 2),
  (⟨"SyntaxspanModel", "addVariables", "(II)V"⟩, prog_14_method_102_code, none, [], 1, 3016, 220, 3015, 177, 2),
  (⟨"SyntaxspanModel", "addFunctions", "(II)V"⟩, prog_14_method_103_code, none, [], 1, 3028, 220, 3027, 180, 2),
  (⟨"SyntaxspanModel", "layScope", "(II)V"⟩, prog_14_method_104_code, none, [], 1, 3012, 220, 3011, 176, 2),
  (⟨"SyntaxspanModel", "layPartners", "(I)V"⟩, prog_14_method_105_code, none, [], 1, 2855, 220, 2854, 155, 1),
  (⟨"SyntaxspanModel", "isFunction", "(I)Z"⟩, prog_14_method_106_code, (some .boolean), [], 1, 2847, 220, 2846, 154, 1),
  (⟨"SyntaxspanModel", "colourOf", "(I)I"⟩, prog_14_method_107_code, (some .int), [], 1, 2843, 220, 2842, 153, 1),
  (⟨"SyntaxspanModel", "tokenWith", "(III)I"⟩, prog_14_method_108_code, (some .int), [], 1, 2839, 220, 2838, 152, 3),
  (⟨"SyntaxspanModel", "copy", "([I[II)V"⟩, prog_14_method_109_code, none, [], 0, 3063, 220, 3062, 0, 3),
  (⟨"SyntaxspanModel", "beginRow", "()V"⟩, prog_14_method_110_code, none, [], 1, 3090, 220, 3089, 188, 0),
  (⟨"SyntaxspanModel", "putNext", "(II)V"⟩, prog_14_method_111_code, none, [], 1, 3094, 220, 3093, 189, 2),
  (⟨"SyntaxspanModel", "insertCode", "(I)V"⟩, prog_14_method_112_code, none, [], 1, 3082, 220, 3081, 186, 1),
  (⟨"SyntaxspanModel", "replaceAll", "(IZ)V"⟩, prog_14_method_113_code, none, [], 1, 3086, 220, 3085, 187, 2),
  (⟨"SyntaxspanModel", "key", "(II)I"⟩, prog_14_method_114_code, (some .int), [], 0, 3078, 220, 3077, 0, 2),
  (⟨"SyntaxspanModel", "keepBindings", "()V"⟩, prog_14_method_115_code, none, [], 1, 3075, 220, 3074, 185, 0),
  (⟨"SyntaxspanModel", "renames", "(II)I"⟩, prog_14_method_116_code, (some .int), [], 1, 3071, 220, 3070, 184, 2),
  (⟨"SyntaxspanModel", "letOf", "(I)I"⟩, prog_14_method_117_code, (some .int), [], 1, 3102, 220, 3101, 191, 1),
  (⟨"SyntaxspanModel", "isSet", "(II)Z"⟩, prog_14_method_118_code, (some .boolean), [], 1, 3110, 220, 3109, 193, 2),
  (⟨"SyntaxspanModel", "areBoundAlike", "(IIII)Z"⟩, prog_14_method_119_code, (some .boolean), [], 1, 3114, 220, 3113, 194, 4)]
def m_mds8 : List MD := [(⟨"SyntaxspanModel", "canInline", "(III)Z"⟩, prog_14_method_120_code, (some .boolean), [], 1, 3106, 220, 3105, 192, 3),
  (⟨"SyntaxspanModel", "inlines", "(I)I"⟩, prog_14_method_121_code, (some .int), [], 1, 3098, 220, 3097, 190, 1),
  (⟨"SyntaxspanModel", "layRow", "(II)V"⟩, prog_14_method_122_code, none, [], 1, 3134, 220, 3133, 199, 2),
  (⟨"SyntaxspanModel", "takeRows", "()V"⟩, prog_14_method_123_code, none, [], 1, 3138, 220, 3137, 200, 0),
  (⟨"SyntaxspanModel", "lastLineOf", "(I)I"⟩, prog_14_method_124_code, (some .int), [], 1, 3126, 220, 3125, 197, 1),
  (⟨"SyntaxspanModel", "shiftLines", "(IIIII)Z"⟩, prog_14_method_125_code, (some .boolean), [], 1, 3130, 220, 3129, 198, 5),
  (⟨"SyntaxspanModel", "addUse", "(II)Z"⟩, prog_14_method_126_code, (some .boolean), [], 1, 3154, 220, 3153, 204, 2),
  (⟨"SyntaxspanModel", "layMoved", "()V"⟩, prog_14_method_127_code, none, [], 1, 3142, 220, 3141, 201, 0),
  (⟨"SyntaxspanModel", "uses", "(II)Z"⟩, prog_14_method_128_code, (some .boolean), [], 1, 3150, 220, 3149, 203, 2),
  (⟨"SyntaxspanModel", "needs", "(II)Z"⟩, prog_14_method_129_code, (some .boolean), [], 1, 3146, 220, 3145, 202, 2),
  (⟨"SyntaxspanModel", "canMove", "(IIII)Z"⟩, prog_14_method_130_code, (some .boolean), [], 1, 3122, 220, 3121, 196, 4),
  (⟨"SyntaxspanModel", "moves", "(II)I"⟩, prog_14_method_131_code, (some .int), [], 1, 3118, 220, 3117, 195, 2),
  (⟨"SyntaxspanModel", "change", "(I)I"⟩, prog_14_method_132_code, (some .int), [], 1, 3067, 220, 3066, 183, 1),
  (⟨"SyntaxspanModel", "play", "()I"⟩, prog_14_method_133_code, (some .int), [], 1, 3060, 220, 3059, 182, 0),
  (⟨"SyntaxspanModel", "takeBack", "()V"⟩, prog_14_method_134_code, none, [], 1, 3158, 220, 3157, 205, 0),
  (⟨"SyntaxspanModel", "changed", "()V"⟩, prog_14_method_135_code, none, [], 1, 2747, 220, 2746, 142, 0),
  (⟨"SyntaxspanModel", "keepModes", "(I)V"⟩, prog_14_method_136_code, none, [], 1, 2743, 220, 2742, 141, 1),
  (⟨"SyntaxspanModel", "tellRelexed", "(II)V"⟩, prog_14_method_137_code, none, [], 1, 2751, 220, 2750, 143, 2),
  (⟨"SyntaxspanModel", "insert", "(IIIC)I"⟩, prog_14_method_138_code, (some .int), [], 1, 2736, 220, 2734, 2735, 4),
  (⟨"SyntaxspanModel", "erase", "(III)C"⟩, prog_14_method_139_code, (some .char), [], 1, 2755, 220, 2753, 2754, 3),
  (⟨"SyntaxspanModel", "f", "(I)V"⟩, prog_14_method_140_code, none, [], 1, 2771, 220, 2770, 146, 1),
  (⟨"SyntaxspanModel", "g", "(IIII)V"⟩, prog_14_method_141_code, none, [], 1, 2767, 220, 2766, 145, 4),
  (⟨"SyntaxspanModel", "layFragment", "(I)V"⟩, prog_14_method_142_code, none, [], 1, 2763, 220, 2762, 144, 1),
  (⟨"SyntaxspanModel", "layFurther", "(I)V"⟩, prog_14_method_143_code, none, [], 1, 2775, 220, 2774, 147, 1),
  (⟨"SyntaxspanModel", "paste", "(III)I"⟩, prog_14_method_144_code, (some .int), [], 1, 2759, 220, 2757, 2758, 3),
  (⟨"SyntaxspanModel", "clear", "(II)I"⟩, prog_14_method_145_code, (some .int), [], 1, 2779, 220, 2777, 2778, 2),
  (⟨"SyntaxspanModel", "unsaved", "(I)I"⟩, prog_14_method_146_code, (some .int), [], 1, 2787, 220, 2786, 148, 1),
  (⟨"SyntaxspanModel", "copyFile", "([I[III)V"⟩, prog_14_method_147_code, none, [], 0, 2790, 220, 2789, 0, 4),
  (⟨"SyntaxspanModel", "save", "(I)I"⟩, prog_14_method_148_code, (some .int), [], 1, 2783, 220, 2781, 2782, 1),
  (⟨"SyntaxspanModel", "back", "(I)I"⟩, prog_14_method_149_code, (some .int), [], 1, 2794, 220, 2792, 2793, 1),
  (⟨"SyntaxspanModel", "isChar", "(III)Z"⟩, prog_14_method_150_code, (some .boolean), [], 1, 2802, 220, 2801, 149, 3),
  (⟨"SyntaxspanModel", "charAt", "(III)C"⟩, prog_14_method_151_code, (some .char), [], 1, 2798, 220, 2796, 2797, 3),
  (⟨"SyntaxspanModel", "length", "(II)I"⟩, prog_14_method_152_code, (some .int), [], 1, 2806, 220, 2804, 2805, 2),
  (⟨"SyntaxspanModel", "relexed", "()I"⟩, prog_14_method_153_code, (some .int), [], 1, 2810, 220, 2808, 2809, 0),
  (⟨"SyntaxspanModel", "looksAt", "(I)Z"⟩, prog_14_method_154_code, (some .boolean), [], 1, 2818, 220, 2817, 150, 1),
  (⟨"SyntaxspanModel", "hasToken", "(IIZ)Z"⟩, prog_14_method_155_code, (some .boolean), [], 1, 2826, 220, 2825, 151, 3),
  (⟨"SyntaxspanModel", "tokens", "(I)I"⟩, prog_14_method_156_code, (some .int), [], 1, 2814, 220, 2812, 2813, 1),
  (⟨"SyntaxspanModel", "token", "(II)I"⟩, prog_14_method_157_code, (some .int), [], 1, 2822, 220, 2820, 2821, 2),
  (⟨"SyntaxspanModel", "tokenAnew", "(II)I"⟩, prog_14_method_158_code, (some .int), [], 1, 2830, 220, 2828, 2829, 2),
  (⟨"SyntaxspanModel", "colour", "(III)I"⟩, prog_14_method_159_code, (some .int), [], 1, 2835, 220, 2833, 2834, 3)]
def m_mds9 : List MD := [(⟨"SyntaxspanModel", "partner", "(II)I"⟩, prog_14_method_160_code, (some .int), [], 1, 2851, 220, 2849, 2850, 2),
  (⟨"SyntaxspanModel", "fold", "(II)I"⟩, prog_14_method_161_code, (some .int), [], 1, 2859, 220, 2857, 2858, 2),
  (⟨"SyntaxspanModel", "errors", "(I)I"⟩, prog_14_method_162_code, (some .int), [], 1, 2863, 220, 2861, 2862, 1),
  (⟨"SyntaxspanModel", "hasError", "(II)Z"⟩, prog_14_method_163_code, (some .boolean), [], 1, 2871, 220, 2870, 156, 2),
  (⟨"SyntaxspanModel", "errorAt", "(II)I"⟩, prog_14_method_164_code, (some .int), [], 1, 2867, 220, 2865, 2866, 2),
  (⟨"SyntaxspanModel", "repair", "(II)I"⟩, prog_14_method_165_code, (some .int), [], 1, 2875, 220, 2873, 2874, 2),
  (⟨"SyntaxspanModel", "tree", "(I)J"⟩, prog_14_method_166_code, (some .long), [], 1, 2906, 220, 2904, 2905, 1),
  (⟨"SyntaxspanModel", "may", "(II)I"⟩, prog_14_method_167_code, (some .int), [], 1, 2928, 220, 2926, 2927, 2),
  (⟨"SyntaxspanModel", "functions", "(I)I"⟩, prog_14_method_168_code, (some .int), [], 1, 2936, 220, 2934, 2935, 1),
  (⟨"SyntaxspanModel", "functionAt", "(II)I"⟩, prog_14_method_169_code, (some .int), [], 1, 2940, 220, 2938, 2939, 2),
  (⟨"SyntaxspanModel", "binding", "(II)I"⟩, prog_14_method_170_code, (some .int), [], 1, 2944, 220, 2942, 2943, 2),
  (⟨"SyntaxspanModel", "bindingAnew", "(II)I"⟩, prog_14_method_171_code, (some .int), [], 1, 2948, 220, 2946, 2947, 2),
  (⟨"SyntaxspanModel", "typeOf", "(II)I"⟩, prog_14_method_172_code, (some .int), [], 1, 2953, 220, 2951, 2952, 2),
  (⟨"SyntaxspanModel", "typeErrors", "()I"⟩, prog_14_method_173_code, (some .int), [], 1, 2992, 220, 2990, 2991, 0),
  (⟨"SyntaxspanModel", "typeErrorAt", "(I)I"⟩, prog_14_method_174_code, (some .int), [], 1, 2996, 220, 2994, 2995, 1),
  (⟨"SyntaxspanModel", "spell", "(C)I"⟩, prog_14_method_175_code, (some .int), [], 1, 3000, 220, 2998, 2999, 1),
  (⟨"SyntaxspanModel", "clearName", "()I"⟩, prog_14_method_176_code, (some .int), [], 1, 3004, 220, 3002, 3003, 0),
  (⟨"SyntaxspanModel", "completions", "(II)I"⟩, prog_14_method_177_code, (some .int), [], 1, 3008, 220, 3006, 3007, 2),
  (⟨"SyntaxspanModel", "completionAt", "(III)I"⟩, prog_14_method_178_code, (some .int), [], 1, 3032, 220, 3030, 3031, 3),
  (⟨"SyntaxspanModel", "plan", "(IIII)I"⟩, prog_14_method_179_code, (some .int), [], 1, 3040, 220, 3039, 181, 4),
  (⟨"SyntaxspanModel", "planRename", "(II)I"⟩, prog_14_method_180_code, (some .int), [], 1, 3036, 220, 3034, 3035, 2),
  (⟨"SyntaxspanModel", "planInline", "(II)I"⟩, prog_14_method_181_code, (some .int), [], 1, 3044, 220, 3042, 3043, 2),
  (⟨"SyntaxspanModel", "planMove", "(III)I"⟩, prog_14_method_182_code, (some .int), [], 1, 3048, 220, 3046, 3047, 3),
  (⟨"SyntaxspanModel", "clearPlan", "()I"⟩, prog_14_method_183_code, (some .int), [], 1, 3052, 220, 3050, 3051, 0),
  (⟨"SyntaxspanModel", "reason", "()I"⟩, prog_14_method_184_code, (some .int), [], 1, 3056, 220, 3054, 3055, 0),
  (⟨"SyntaxspanModel", "takeBackAll", "()V"⟩, prog_14_method_185_code, none, [], 1, 3162, 220, 3161, 206, 0),
  (⟨"SyntaxspanModel", "carryOut", "()I"⟩, prog_14_method_186_code, (some .int), [], 1, 3166, 220, 3164, 3165, 0),
  (⟨"SyntaxspanLaw", "insert", "(LSyntaxspan;IIIC[J)I"⟩, method_3_code, (some .int), [(0, 14, 17, 13), (0, 14, 21, 15), (0, 14, 25, 17)], 0, 1505, 207, 1504, 0, 6),
  (⟨"SyntaxspanLaw", "erase", "(LSyntaxspan;III[J)I"⟩, method_4_code, (some .int), [(0, 12, 15, 13)], 0, 1577, 207, 1576, 0, 5),
  (⟨"SyntaxspanLaw", "paste", "(LSyntaxspan;III[J)I"⟩, method_5_code, (some .int), [(0, 12, 15, 13), (0, 12, 19, 15), (0, 12, 23, 17)], 0, 1592, 207, 1591, 0, 5),
  (⟨"SyntaxspanLaw", "clear", "(LSyntaxspan;II[J)I"⟩, method_6_code, (some .int), [(0, 10, 13, 13)], 0, 1628, 207, 1627, 0, 4),
  (⟨"SyntaxspanLaw", "save", "(LSyntaxspan;I[J)I"⟩, method_7_code, (some .int), [(0, 9, 12, 13)], 0, 1636, 207, 1635, 0, 3),
  (⟨"SyntaxspanLaw", "back", "(LSyntaxspan;I[J)I"⟩, method_8_code, (some .int), [(0, 9, 12, 13)], 0, 1655, 207, 1654, 0, 3),
  (⟨"SyntaxspanLaw", "charAt", "(LSyntaxspan;III[J)I"⟩, method_9_code, (some .int), [(0, 12, 15, 13)], 0, 1662, 207, 1661, 0, 5),
  (⟨"SyntaxspanLaw", "length", "(LSyntaxspan;II[J)I"⟩, method_10_code, (some .int), [(0, 10, 13, 13)], 0, 1670, 207, 1669, 0, 4),
  (⟨"SyntaxspanLaw", "tokens", "(LSyntaxspan;I[J)I"⟩, method_11_code, (some .int), [(0, 9, 12, 13)], 0, 1677, 207, 1676, 0, 3),
  (⟨"SyntaxspanLaw", "token", "(LSyntaxspan;II[J)I"⟩, method_12_code, (some .int), [(0, 10, 13, 13)], 0, 1684, 207, 1683, 0, 4),
  (⟨"SyntaxspanLaw", "tokenAnew", "(LSyntaxspan;II[J)I"⟩, method_13_code, (some .int), [(0, 10, 13, 13)], 0, 1699, 207, 1698, 0, 4),
  (⟨"SyntaxspanLaw", "colour", "(LSyntaxspan;III[J)I"⟩, method_14_code, (some .int), [(0, 12, 15, 13)], 0, 1711, 207, 1710, 0, 5),
  (⟨"SyntaxspanLaw", "partner", "(LSyntaxspan;II[J)I"⟩, method_15_code, (some .int), [(0, 10, 13, 13)], 0, 1724, 207, 1723, 0, 4)]
def m_mds10 : List MD := [(⟨"SyntaxspanLaw", "fold", "(LSyntaxspan;II[J)I"⟩, method_16_code, (some .int), [(0, 10, 13, 13)], 0, 1731, 207, 1730, 0, 4),
  (⟨"SyntaxspanLaw", "errors", "(LSyntaxspan;I[J)I"⟩, method_17_code, (some .int), [(0, 9, 12, 13)], 0, 1743, 207, 1742, 0, 3),
  (⟨"SyntaxspanLaw", "errorAt", "(LSyntaxspan;II[J)I"⟩, method_18_code, (some .int), [(0, 10, 13, 13)], 0, 1750, 207, 1749, 0, 4),
  (⟨"SyntaxspanLaw", "repair", "(LSyntaxspan;II[J)I"⟩, method_19_code, (some .int), [(0, 10, 13, 13)], 0, 1761, 207, 1760, 0, 4),
  (⟨"SyntaxspanLaw", "tree", "(LSyntaxspan;I[J)I"⟩, method_20_code, (some .int), [(0, 8, 11, 13)], 0, 1793, 207, 1792, 0, 3),
  (⟨"SyntaxspanLaw", "may", "(LSyntaxspan;II[J)I"⟩, method_21_code, (some .int), [(0, 10, 13, 13)], 0, 1827, 207, 1826, 0, 4),
  (⟨"SyntaxspanLaw", "functions", "(LSyntaxspan;I[J)I"⟩, method_22_code, (some .int), [(0, 9, 12, 13)], 0, 1854, 207, 1853, 0, 3),
  (⟨"SyntaxspanLaw", "functionAt", "(LSyntaxspan;II[J)I"⟩, method_23_code, (some .int), [(0, 10, 13, 13)], 0, 1861, 207, 1860, 0, 4),
  (⟨"SyntaxspanLaw", "binding", "(LSyntaxspan;II[J)I"⟩, method_24_code, (some .int), [(0, 10, 13, 13)], 0, 1872, 207, 1871, 0, 4),
  (⟨"SyntaxspanLaw", "bindingAnew", "(LSyntaxspan;II[J)I"⟩, method_25_code, (some .int), [(0, 10, 13, 13)], 0, 1882, 207, 1881, 0, 4),
  (⟨"SyntaxspanLaw", "typeOf", "(LSyntaxspan;II[J)I"⟩, method_26_code, (some .int), [(0, 10, 13, 13)], 0, 1889, 207, 1888, 0, 4),
  (⟨"SyntaxspanLaw", "typeErrorAt", "(LSyntaxspan;I[J)I"⟩, method_27_code, (some .int), [(0, 9, 12, 13)], 0, 1900, 207, 1899, 0, 3),
  (⟨"SyntaxspanLaw", "spell", "(LSyntaxspan;C[J)I"⟩, method_28_code, (some .int), [(0, 9, 12, 15), (0, 9, 15, 17)], 0, 1907, 207, 1906, 0, 3),
  (⟨"SyntaxspanLaw", "completions", "(LSyntaxspan;II[J)I"⟩, method_29_code, (some .int), [(0, 10, 13, 13)], 0, 1914, 207, 1913, 0, 4),
  (⟨"SyntaxspanLaw", "completionAt", "(LSyntaxspan;III[J)I"⟩, method_30_code, (some .int), [(0, 12, 15, 13)], 0, 1957, 207, 1956, 0, 5),
  (⟨"SyntaxspanLaw", "planRename", "(LSyntaxspan;II[J)I"⟩, method_31_code, (some .int), [(0, 10, 13, 13), (0, 10, 17, 17)], 0, 1964, 207, 1963, 0, 4),
  (⟨"SyntaxspanLaw", "planInline", "(LSyntaxspan;II[J)I"⟩, method_32_code, (some .int), [(0, 10, 13, 13), (0, 10, 17, 17)], 0, 1983, 207, 1982, 0, 4),
  (⟨"SyntaxspanLaw", "planMove", "(LSyntaxspan;III[J)I"⟩, method_33_code, (some .int), [(0, 12, 15, 13), (0, 12, 19, 15), (0, 12, 23, 17)], 0, 1994, 207, 1993, 0, 5),
  (⟨"SyntaxspanLaw", "carryOut", "(LSyntaxspan;[J)I"⟩, method_34_code, (some .int), [(0, 8, 11, 17)], 0, 2005, 207, 2004, 0, 2),
  (⟨"SyntaxspanLaw", "run", "(LSyntaxspan;IIII[J)I"⟩, method_35_code, (some .int), [(0, 13, 16, 13)], 0, 2012, 207, 2011, 0, 6),
  (⟨"SyntaxspanLaw", "law", "([I)Z"⟩, code, (some .boolean), [], 9, 0, 0, 0, 0, 1),
  (⟨"java/lang/String", "length", "()I"⟩, prog_26_method_54_code, (some .int), [], 1, 944, 228, 942, 943, 0),
  (⟨"java/lang/String", "charAt", "(I)C"⟩, prog_26_method_56_code, (some .char), [], 1, 1474, 228, 1472, 1473, 1),
  (⟨"java/lang/String", "coder", "()B"⟩, prog_26_method_152_code, (some .byte), [], 1, 948, 228, 946, 947, 0),
  (⟨"java/lang/String", "coder", "()B"⟩, prog_26_method_152_code, (some .byte), [], 1, 948, 228, 946, 947, 0),
  (⟨"java/lang/String", "coder", "()B"⟩, prog_26_method_152_code, (some .byte), [], 1, 948, 228, 946, 947, 0),
  (⟨"java/lang/String", "isLatin1", "()Z"⟩, prog_26_method_154_code, (some .boolean), [], 1, 1478, 228, 1476, 1477, 0),
  (⟨"java/lang/String", "checkIndex", "(II)V"⟩, prog_26_method_155_code, none, [], 0, 1484, 228, 1483, 0, 2),
  (⟨"java/lang/StringLatin1", "charAt", "([BI)C"⟩, prog_28_method_2_code, (some .char), [], 0, 1481, 229, 1480, 0, 2),
  (⟨"java/lang/String", "coder", "()B"⟩, prog_26_method_152_code, (some .byte), [], 1, 948, 228, 946, 947, 0),
  (⟨"java/lang/String", "coder", "()B"⟩, prog_26_method_152_code, (some .byte), [], 1, 948, 228, 946, 947, 0),
  (⟨"java/lang/String", "coder", "()B"⟩, prog_26_method_152_code, (some .byte), [], 1, 948, 228, 946, 947, 0),
  (⟨"jdk/internal/util/Preconditions", "checkIndex", "(IILjava/util/function/BiFunction;)I"⟩, prog_34_method_11_code, (some .int), [], 0, 1487, 230, 1486, 0, 3),
  (⟨"java/util/Arrays", "fill", "([II)V"⟩, prog_32_method_103_code, none, [], 0, 1223, 233, 1222, 0, 2),
  (⟨"java/util/Arrays", "fill", "([IIII)V"⟩, prog_32_method_104_code, none, [], 0, 787, 233, 786, 0, 4),
  (⟨"java/util/Arrays", "fill", "([JIIJ)V"⟩, prog_32_method_102_code, none, [], 0, 2032, 233, 2031, 0, 4),
  (⟨"java/util/Arrays", "rangeCheck", "(III)V"⟩, prog_32_method_30_code, none, [], 0, 790, 233, 789, 0, 3),
  (⟨"java/lang/Math", "max", "(II)I"⟩, prog_23_method_65_code, (some .int), [], 0, 890, 232, 889, 0, 2),
  (⟨"java/lang/Math", "min", "(II)I"⟩, prog_23_method_69_code, (some .int), [], 0, 784, 232, 783, 0, 2)]
def m_mds : List MD := m_mds0 ++ (m_mds1 ++ (m_mds2 ++ (m_mds3 ++ (m_mds4 ++ (m_mds5 ++ (m_mds6 ++ (m_mds7 ++ (m_mds8 ++ (m_mds9 ++ (m_mds10))))))))))
def m_md (M : Nat) : MD := m_mds.getD M (⟨"", "", ""⟩, ⟨#[]⟩, none, [], 99, 0, 0, 0, 0, 0)
def m_y (M : Nat) : MethodName := (m_md M).1
def m_cc (M : Nat) : ByteArray := (m_md M).2.1
def m_ret (M : Nat) : Option FieldType := (m_md M).2.2.1
def m_raw (M : Nat) : List (Nat × Nat × Nat × Nat) := (m_md M).2.2.2.1
def m_knd (M : Nat) : Nat := (m_md M).2.2.2.2.1
def m_par (M : Nat) : Nat := (m_md M).2.2.2.2.2.2.2.2.2
def m_w0 (M : Nat) : Cond := match m_raw M with
  | [] => .code (m_y M) (m_cc M) (m_mls.getD M 0) (m_ret M)
  | hh => .codeWith (m_y M) (m_cc M) (m_mls.getD M 0) (m_ret M) hh
def m_has (w : Cond) (j : Nat) : Bool := decide (lw_tbl[j]? = some w) && goodWord w
def m_hasN (w : Cond) (j : Nat) : Bool := decide (lw_tbl[j]? = some w) && m_nest w
theorem m_has_ok {w : Cond} {j : Nat} (h : m_has w j = true) : w ∈ lw_tbl ∧ goodWord w = true := by
  unfold m_has at h
  rw [Bool.and_eq_true, decide_eq_true_iff] at h
  exact ⟨List.mem_of_getElem? h.1, h.2⟩
theorem m_hasN_ok {w : Cond} {j : Nat} (h : m_hasN w j = true) : w ∈ lw_tbl ∧ m_nest w = true := by
  unfold m_hasN at h
  rw [Bool.and_eq_true, decide_eq_true_iff] at h
  exact ⟨List.mem_of_getElem? h.1, h.2⟩
def m_rok (M : Nat) : Bool := match m_cl[m_own M]? with
  | some r => decide (r.1 = (m_y M).cls)
  | none => m_own M == 200 && decide ((m_y M).cls = "java/lang/String")
def m_eqB (a b : ByteArray) : Bool := a.data.toList == b.data.toList
theorem m_eqB_ok {a b : ByteArray} (h : m_eqB a b = true) : a = b := by
  obtain ⟨a⟩ := a
  obtain ⟨b⟩ := b
  have h1 : a.toList = b.toList := eq_of_beq h
  rw [Array.toList_inj.mp h1]
def m_eqw (a b : Cond) : Bool := match a, b with
  | .code y c m r, .code y2 c2 m2 r2 => decide (y = y2) && (m_eqB c c2 && (decide (m = m2) && decide (r = r2)))
  | .codeWith y c m r hh, .codeWith y2 c2 m2 r2 hh2 => decide (y = y2) && (m_eqB c c2 && (decide (m = m2) && (decide (r = r2) && decide (hh = hh2))))
  | _, _ => false
theorem m_eqw_ok {a b : Cond} (h : m_eqw a b = true) : a = b := by
  unfold m_eqw at h
  split at h
  · simp only [Bool.and_eq_true, decide_eq_true_iff] at h
    obtain ⟨rfl, h2, rfl, rfl⟩ := h
    rw [m_eqB_ok h2]
  · simp only [Bool.and_eq_true, decide_eq_true_iff] at h
    obtain ⟨rfl, h2, rfl, rfl, rfl⟩ := h
    rw [m_eqB_ok h2]
  · cases h
def m_hasC (w : Cond) (j : Nat) : Bool := (match lw_tbl[j]? with
  | some v => m_eqw v w
  | none => false) && goodWord w
theorem m_hasC_ok {w : Cond} {j : Nat} (h : m_hasC w j = true) : w ∈ lw_tbl ∧ goodWord w = true := by
  unfold m_hasC at h
  rw [Bool.and_eq_true] at h
  refine ⟨?_, h.2⟩
  have h1 := h.1
  split at h1
  · next v hv =>
    rw [← m_eqw_ok h1]
    exact List.mem_of_getElem? hv
  · cases h1
def m_mok (M : Nat) : Bool :=
  (m_knd M == 0 || m_rok M) && (m_hasC (m_w0 M) (m_md M).2.2.2.2.2.1 && (m_has (.initialized (m_y M).cls) (m_md M).2.2.2.2.2.2.1 && ((plainFor (m_y M) && ((plainName (m_y M).cls || decide (421 ≤ M)) && (decide (387 ≤ M) || (m_raw M).isEmpty))) && (decide ((m_y M).cls ≠ "java/lang/invoke/MethodHandle") && (decide ((m_y M).cls ≠ "java/lang/invoke/VarHandle") &&
  (decide ((parseMethodDescriptor (m_y M).desc).map (fun d => d.parameters.length) = some (m_par M)) && (decide (m_mls.getD M 0 ≤ 80) &&
  (match m_knd M with
    | 0 => m_has (.static (m_y M)) (m_md M).2.2.2.2.2.2.2.1
    | 1 => m_has (.instanceMethod (m_y M)) (m_md M).2.2.2.2.2.2.2.1 && m_has (.selects (m_y M).cls (m_y M) (m_y M)) (m_md M).2.2.2.2.2.2.2.2.1
    | 2 => m_has (.instanceMethod (m_y M)) (m_md M).2.2.2.2.2.2.2.1 && (decide ((m_y M).name = "<init>") && decide (m_ret M = none))
    | _ => false))))))))
def m_ln : Instr → Nat
  | .bipush _ => 2
  | .iload _ => 2
  | .lload _ => 2
  | .aload _ => 2
  | .istore _ => 2
  | .lstore _ => 2
  | .astore _ => 2
  | .ldc _ => 2
  | .newarray _ => 2
  | .sipush _ => 3
  | .ldc_w _ => 3
  | .ldc2_w _ => 3
  | .iinc _ _ => 3
  | .ifCond _ _ => 3
  | .if_icmp _ _ => 3
  | .goto _ => 3
  | .getfield _ => 3
  | .putfield _ => 3
  | .getstatic _ => 3
  | .new _ => 3
  | .anewarray _ => 3
  | .invokespecial _ => 3
  | .invokevirtual _ => 3
  | .invokestatic _ => 3
  | _ => 1
def m_isT : Instr → Bool
  | .tableswitch .. => true
  | _ => false
def m_dcd (cc : ByteArray) (pc : Nat) (i : Instr) : Bool := match decode cc pc with
  | .ok (j, n) => decide (j = i) && (n == m_ln i || m_isT i)
  | _ => false
def m_rng32 (v : Int) : Bool := decide (-2147483648 ≤ v) && decide (v < 2147483648)
def m_fw (own : String) (idx : Nat) (r : vw_C) (q : LK) : Bool :=
  if q.2.2.2 = 0 then m_has (.fieldLink own idx (r.2.1 q.2.1).1 (r.2.1 q.2.1).2.1 (r.2.1 q.2.1).2.2.1) q.2.2.1 else m_hasN (.fieldLinkNest own idx (r.2.1 q.2.1).1 (r.2.1 q.2.1).2.1 (r.2.1 q.2.1).2.2.1 "Syntaxspan") q.2.2.1
def m_ics : List Nat := [75, 78, 81]
def m_spc (own nm : String) (ret : Option FieldType) (cc : ByteArray) (pc : Nat) (i : Instr) (q : LK) : Bool :=
  match i with
  | .iconst v => m_rng32 v
  | .bipush v => decide (-128 ≤ v) && decide (v < 128)
  | .sipush v => decide (-32768 ≤ v) && decide (v < 32768)
  | .iinc _ v => m_rng32 v
  | .ifCond _ off => decide (0 ≤ (pc : Int) + off)
  | .if_icmp _ off => decide (0 ≤ (pc : Int) + off)
  | .goto off => decide (0 ≤ (pc : Int) + off)
  | .getfield idx => (match m_cl[q.1]? with
    | some r => decide (q.2.1 < r.2.2) && m_fw own idx r q
    | none => (q.1 == 100 && ((q.2.1 == 0 && m_has (.fieldLink own idx "java/lang/String" "value" "[B") q.2.2.1) || (q.2.1 == 1 && m_has (.fieldLink own idx "java/lang/String" "coder" "B") q.2.2.1))) || decide (150 ≤ q.1))
  | .putfield idx => (match m_cl[q.1]? with
    | some r => decide (q.2.1 < r.2.2) && (m_fw own idx r q && (!(r.2.1 q.2.1).2.2.2 || (q.2.2.2 == 0 && (decide (nm = "<init>") && decide ((r.2.1 q.2.1).1 = own)))))
    | none => decide (150 ≤ q.1))
  | .getstatic idx => (q.1 == 0 && (q.2.1 == 0 && m_has (.fieldLink own idx "Syntaxspan$Repair" "CLASSES" "[I") q.2.2.1)) || ((q.1 == 0 && (q.2.1 == 1 && m_has (.fieldLink own idx "Syntaxspan$Repair" "RULES" "[I") q.2.2.1)) || ((q.1 == 0 && (q.2.1 == 2 && m_has (.fieldLink own idx "Syntaxspan" "WORD_STARTS" "[I") q.2.2.1)) || ((q.1 == 0 && (q.2.1 == 3 && m_has (.fieldLink own idx "Syntaxspan" "SIGNS" "[C") q.2.2.1)) || ((q.1 == 0 && (q.2.1 == 4 && m_has (.fieldLink own idx "Syntaxspan" "WORDS" "[C") q.2.2.1)) || ((q.1 == 1 && m_has (.fieldLink own idx "java/lang/String" "COMPACT_STRINGS" "Z") q.2.2.1) || ((q.1 == 2 && m_has (.fieldLink own idx "jdk/internal/util/Preconditions" "SIOOBE_FORMATTER" "Ljava/util/function/BiFunction;") q.2.2.1) || decide (3 ≤ q.1)))))))
  | .ldc idx => (q.1 == 1 && (decide (q.2.1 < 2147483648) && m_has (.constant own idx (Int32.ofInt (q.2.1 : Int))) q.2.2.1)) || ((q.1 == 2 && (decide (q.2.1 < 30) && (match m_strs[q.2.1]? with
    | some t => decide (t.1 = own) && t.2.1 == idx
    | none => false))) || (decide (3 ≤ q.1) || q.1 == 0))
  | .ldc_w idx => (q.1 == 1 && (decide (q.2.1 < 2147483648) && m_has (.constant own idx (Int32.ofInt (q.2.1 : Int))) q.2.2.1)) || ((q.1 == 2 && (decide (q.2.1 < 30) && (match m_strs[q.2.1]? with
    | some t => decide (t.1 = own) && t.2.1 == idx
    | none => false))) || (decide (3 ≤ q.1) || q.1 == 0))
  | .ldc2_w idx => (q.1 == 1 && (decide (q.2.1 < 2147483648) && m_has (.constantLong own idx (Int64.ofInt (q.2.1 : Int))) q.2.2.1)) || !(q.1 == 1)
  | .anewarray idx => (match m_cl[q.1]? with
    | some r => m_has (.classLink own idx r.1) q.2.2.1 && m_hasN (.arrayOver (.object r.1)) q.2.2.2
    | none => decide (40 ≤ q.1))
  | .new idx => (match m_cl[q.1]? with
    | some r => r.2.2 == q.2.1 && (m_has (.classLink own idx r.1) q.2.2.1 && m_has (.instantiable r.1 r.2.2) q.2.2.2)
    | none => (decide (50 ≤ q.1) && decide (q.1 < 200)) || (decide (200 ≤ q.1) && (decide (q.1 < 203) && (decide (own = "Syntaxspan") && (m_has (.classLink own idx (m_exn (q.1 - 200))) q.2.2.1 &&
      (m_dcd cc (pc + 3) .dup && (m_dcd cc (pc + 4) (.invokespecial (m_ics.getD (q.1 - 200) 0)) && m_dcd cc (pc + 7) .athrow)))))))
  | .invokespecial idx => (q.2.2.2 == 9 && m_has (.methodLink own idx Lib.objectInit) q.2.2.1) || ((q.2.2.2 == 4 && (m_has (.methodLink own idx (m_y q.1)) q.2.2.1 && (decide (q.1 < 439 ∧ q.1 ≠ 420) && (m_knd q.1 == 2 && q.2.1 == m_par q.1 + 1)))) || ((q.2.2.2 == 5 && (m_hasN (.methodLinkNest own idx (m_y q.1) "Syntaxspan") q.2.2.1 && (decide (q.1 < 439 ∧ q.1 ≠ 420) && (m_knd q.1 == 2 && q.2.1 == m_par q.1 + 1)))) || (q.2.2.2 == 8)))
  | .invokevirtual idx => (q.2.2.2 == 2 && (m_has (.methodLink own idx (m_y q.1)) q.2.2.1 && (decide (q.1 < 439 ∧ q.1 ≠ 420) && (m_knd q.1 == 1 && q.2.1 == m_par q.1 + 1)))) || ((q.2.2.2 == 3 && (m_hasN (.methodLinkNest own idx (m_y q.1) "Syntaxspan") q.2.2.1 && (decide (q.1 < 439 ∧ q.1 ≠ 420) && (m_knd q.1 == 1 && q.2.1 == m_par q.1 + 1)))) || (q.2.2.2 == 8))
  | .invokestatic idx => (q.2.2.2 == 6 && m_has (.methodLink own idx arraycopyName) q.2.2.1) || ((q.2.2.2 == 0 && (m_has (.methodLink own idx (m_y q.1)) q.2.2.1 && (decide (q.1 < 439 ∧ q.1 ≠ 420) && (m_knd q.1 == 0 && (q.2.1 == m_par q.1 && (m_raw q.1).isEmpty))))) || ((q.2.2.2 == 1 && (m_hasN (.methodLinkNest own idx (m_y q.1) "Syntaxspan") q.2.2.1 && (decide (q.1 < 439 ∧ q.1 ≠ 420) && (m_knd q.1 == 0 && (q.2.1 == m_par q.1 && (m_raw q.1).isEmpty))))) || ((q.2.2.2 == 7 && (m_has (.methodLink own idx (m_y q.1)) q.2.2.1 && (decide (q.1 < 439 ∧ q.1 ≠ 420) && (m_knd q.1 == 0 && (q.2.1 == m_par q.1 && !(m_raw q.1).isEmpty))))) || q.2.2.2 == 8)))
  | .ireturn => (match ret with
    | some .int => q.1 == 0
    | some .boolean => q.1 == 2
    | some .char => q.1 == 3
    | some .byte => q.1 == 5
    | _ => decide (6 ≤ q.1))
  | .lreturn => decide (ret = some .long)
  | .areturn => (match ret with
    | some (.object _) => true
    | some (.array _) => true
    | _ => false)
  | .return_ => decide (ret = none)
  | _ => true
def m_ick (M pc : Nat) (i : Instr) (q : LK) : Bool := m_dcd (m_cc M) pc i && m_spc (m_y M).cls (m_y M).name (m_ret M) (m_cc M) pc i q
def m_tck (M : Nat) (tb : List (Option (Instr × LK))) : Bool := tb.zipIdx.all fun x => match x.1 with
  | some (i, q) => m_ick M x.2 i q
  | none => true
