/-! THE METHODS' DATA AND THE CHECK OF THEIR TABLES -/
abbrev MD : Type := MethodName × ByteArray × Option FieldType × List (Nat × Nat × Nat × Nat) × Nat × Nat × Nat × Nat × Nat × Nat
def m_mds0 : List MD := [(⟨"Syntaxspan$Completer", "<init>", "()V"⟩, prog_2_method_1_code, none, [], 2, 614, 218, 613, 0, 0),
  (⟨"Syntaxspan$Completer", "maySet", "(LSyntaxspan$Desk;II)I"⟩, prog_2_method_2_code, (some .int), [], 1, 1889, 218, 1887, 1888, 3),
  (⟨"Syntaxspan$Completer", "takeAhead", "(LSyntaxspan$Tokens;I)I"⟩, prog_2_method_3_code, (some .int), [], 1, 1893, 218, 1892, 57, 2),
  (⟨"Syntaxspan$Completer", "gather", "(LSyntaxspan$Desk;II[CI)V"⟩, prog_2_method_4_code, none, [], 1, 1972, 218, 1970, 1971, 5),
  (⟨"Syntaxspan$Completer", "addLocals", "(LSyntaxspan$Desk;II)V"⟩, prog_2_method_5_code, none, [], 1, 1977, 218, 1976, 59, 3),
  (⟨"Syntaxspan$Completer", "openEnd", "(I)I"⟩, prog_2_method_6_code, (some .int), [], 1, 1981, 218, 1980, 60, 1),
  (⟨"Syntaxspan$Completer", "addFunctions", "(LSyntaxspan$Desk;II)V"⟩, prog_2_method_7_code, none, [], 1, 1995, 218, 1994, 62, 3),
  (⟨"Syntaxspan$Completer", "addNew", "(LSyntaxspan$Desk;II)V"⟩, prog_2_method_8_code, none, [], 1, 1990, 218, 1989, 61, 3),
  (⟨"Syntaxspan$Completer", "keepBegun", "(LSyntaxspan$Desk;[CI)V"⟩, prog_2_method_9_code, none, [], 1, 2000, 218, 1999, 63, 3),
  (⟨"Syntaxspan$Completer", "begins", "(LSyntaxspan$Desk;I[CI)Z"⟩, prog_2_method_10_code, (some .boolean), [], 0, 2003, 218, 2002, 0, 4),
  (⟨"Syntaxspan$Desk", "<init>", "()V"⟩, prog_3_method_1_code, none, [], 2, 253, 209, 252, 0, 0),
  (⟨"Syntaxspan$Desk", "refresh", "()V"⟩, prog_3_method_2_code, none, [], 1, 735, 209, 733, 734, 0),
  (⟨"Syntaxspan$Desk", "bindFile", "(I)V"⟩, prog_3_method_3_code, none, [], 1, 1302, 209, 1301, 19, 1),
  (⟨"Syntaxspan$Desk", "bindParams", "(II)V"⟩, prog_3_method_4_code, none, [], 1, 1327, 209, 1326, 20, 2),
  (⟨"Syntaxspan$Desk", "functionFor", "(II)I"⟩, prog_3_method_5_code, (some .int), [], 1, 1331, 209, 1330, 21, 2),
  (⟨"Syntaxspan$Desk", "firstFunction", "(II)I"⟩, prog_3_method_6_code, (some .int), [], 1, 1335, 209, 1334, 22, 2),
  (⟨"Syntaxspan$Desk", "usedFile", "(II)I"⟩, prog_3_method_7_code, (some .int), [], 1, 1344, 209, 1342, 1343, 2),
  (⟨"Syntaxspan$Desk", "sameText", "(II)Z"⟩, prog_3_method_8_code, (some .boolean), [], 1, 1339, 209, 1337, 1338, 2),
  (⟨"Syntaxspan$Desk", "isFunction", "(I)Z"⟩, prog_3_method_9_code, (some .boolean), [], 1, 1385, 209, 1383, 1384, 1),
  (⟨"Syntaxspan$Desk", "paramsOf", "(I)I"⟩, prog_3_method_10_code, (some .int), [], 1, 1381, 209, 1379, 1380, 1),
  (⟨"Syntaxspan$Lines", "<init>", "()V"⟩, prog_4_method_1_code, none, [], 2, 259, 210, 258, 0, 0),
  (⟨"Syntaxspan$Lines", "size", "(I)I"⟩, prog_4_method_2_code, (some .int), [], 1, 747, 210, 745, 746, 1),
  (⟨"Syntaxspan$Lines", "sign", "(II)C"⟩, prog_4_method_3_code, (some .char), [], 1, 754, 210, 752, 753, 2),
  (⟨"Syntaxspan$Lines", "put", "(IIC)V"⟩, prog_4_method_4_code, none, [], 1, 1550, 210, 1548, 1549, 3),
  (⟨"Syntaxspan$Lines", "take", "(II)C"⟩, prog_4_method_5_code, (some .char), [], 1, 1641, 210, 1639, 1640, 2),
  (⟨"Syntaxspan$Lines", "wipe", "(I)V"⟩, prog_4_method_6_code, none, [], 1, 1525, 210, 1523, 1524, 1),
  (⟨"Syntaxspan$Lines", "fill", "(I[CI)V"⟩, prog_4_method_7_code, none, [], 1, 1464, 210, 1462, 1463, 3),
  (⟨"Syntaxspan$Lines", "copyRow", "(LSyntaxspan$Lines;II)V"⟩, prog_4_method_8_code, none, [], 1, 1521, 210, 1519, 1520, 3),
  (⟨"Syntaxspan$Lines", "copyFrom", "(LSyntaxspan$Lines;)V"⟩, prog_4_method_9_code, none, [], 1, 1429, 210, 1427, 1428, 1),
  (⟨"Syntaxspan$Lines", "alike", "(LSyntaxspan$Lines;I)Z"⟩, prog_4_method_10_code, (some .boolean), [], 1, 1700, 210, 1698, 1699, 2),
  (⟨"Syntaxspan$Lines", "numberOrigins", "()V"⟩, prog_4_method_11_code, none, [], 1, 1439, 210, 1437, 1438, 0),
  (⟨"Syntaxspan$Lines", "openRows", "(III)Z"⟩, prog_4_method_12_code, (some .boolean), [], 1, 1515, 210, 1513, 1514, 3),
  (⟨"Syntaxspan$Lines", "closeRows", "(III)V"⟩, prog_4_method_13_code, none, [], 1, 1530, 210, 1528, 1529, 3),
  (⟨"Syntaxspan$Plan", "<init>", "()V"⟩, prog_5_method_1_code, none, [], 2, 637, 219, 636, 0, 0),
  (⟨"Syntaxspan$Plan", "disturb", "()V"⟩, prog_5_method_2_code, none, [], 1, 1626, 219, 1624, 1625, 0),
  (⟨"Syntaxspan$Plan", "wipe", "()I"⟩, prog_5_method_3_code, (some .int), [], 1, 1417, 219, 1415, 1416, 0),
  (⟨"Syntaxspan$Plan", "add", "(IIII)I"⟩, prog_5_method_4_code, (some .int), [], 1, 2030, 219, 2029, 65, 4),
  (⟨"Syntaxspan$Plan", "addRename", "(II[CI)I"⟩, prog_5_method_5_code, (some .int), [], 1, 2026, 219, 2024, 2025, 4),
  (⟨"Syntaxspan$Plan", "addInline", "(II)I"⟩, prog_5_method_6_code, (some .int), [], 1, 2041, 219, 2039, 2040, 2),
  (⟨"Syntaxspan$Plan", "addMove", "(III)I"⟩, prog_5_method_7_code, (some .int), [], 1, 2052, 219, 2050, 2051, 3)]
def m_mds1 : List MD := [(⟨"Syntaxspan$Plan", "against", "(LSyntaxspan$Desk;)I"⟩, prog_5_method_8_code, (some .int), [], 1, 1425, 219, 1423, 1424, 1),
  (⟨"Syntaxspan$Plan", "keepOld", "()V"⟩, prog_5_method_9_code, none, [], 1, 1435, 219, 1434, 30, 0),
  (⟨"Syntaxspan$Plan", "follow", "()V"⟩, prog_5_method_10_code, none, [], 1, 1534, 219, 1533, 41, 0),
  (⟨"Syntaxspan$Plan", "bindsOtherwise", "()Z"⟩, prog_5_method_11_code, (some .boolean), [], 1, 1554, 219, 1553, 44, 0),
  (⟨"Syntaxspan$Plan", "rename", "(I)I"⟩, prog_5_method_12_code, (some .int), [], 1, 1445, 219, 1444, 31, 1),
  (⟨"Syntaxspan$Plan", "rewriteAll", "(IIII)I"⟩, prog_5_method_13_code, (some .int), [], 1, 1450, 219, 1449, 32, 4),
  (⟨"Syntaxspan$Plan", "rewrite", "(IIII)Z"⟩, prog_5_method_14_code, (some .boolean), [], 1, 1454, 219, 1453, 33, 4),
  (⟨"Syntaxspan$Plan", "inline", "(I)I"⟩, prog_5_method_15_code, (some .int), [], 1, 1468, 219, 1467, 34, 1),
  (⟨"Syntaxspan$Plan", "endOfLet", "(II)I"⟩, prog_5_method_16_code, (some .int), [], 1, 1472, 219, 1471, 35, 2),
  (⟨"Syntaxspan$Plan", "calls", "(LSyntaxspan$Tokens;II)Z"⟩, prog_5_method_17_code, (some .boolean), [], 0, 1482, 219, 1481, 0, 3),
  (⟨"Syntaxspan$Plan", "written", "(III)Z"⟩, prog_5_method_18_code, (some .boolean), [], 1, 1487, 219, 1486, 36, 3),
  (⟨"Syntaxspan$Plan", "boundAlike", "(III)Z"⟩, prog_5_method_19_code, (some .boolean), [], 1, 1491, 219, 1490, 37, 3),
  (⟨"Syntaxspan$Plan", "joinText", "(III)V"⟩, prog_5_method_20_code, none, [], 1, 1498, 219, 1497, 38, 3),
  (⟨"Syntaxspan$Plan", "write", "(C)V"⟩, prog_5_method_21_code, none, [], 1, 1502, 219, 1501, 39, 1),
  (⟨"Syntaxspan$Plan", "move", "(I)I"⟩, prog_5_method_22_code, (some .int), [], 1, 1506, 219, 1505, 40, 1),
  (⟨"Syntaxspan$Plan", "needsUse", "(II)Z"⟩, prog_5_method_23_code, (some .boolean), [], 1, 1538, 219, 1537, 42, 2),
  (⟨"Syntaxspan$Plan", "addUse", "(II)I"⟩, prog_5_method_24_code, (some .int), [], 1, 1543, 219, 1542, 43, 2),
  (⟨"Syntaxspan$Reader", "<init>", "(LSyntaxspan$Tree;)V"⟩, prog_6_method_1_code, none, [], 2, 441, 214, 440, 0, 1),
  (⟨"Syntaxspan$Reader", "read", "([IILSyntaxspan$Tree;)V"⟩, prog_6_method_2_code, none, [], 1, 1205, 214, 1203, 1204, 3),
  (⟨"Syntaxspan$Reader", "kind", "(I)I"⟩, prog_6_method_3_code, (some .int), [], 1, 1219, 214, 1218, 6, 1),
  (⟨"Syntaxspan$Reader", "eat", "(I)Z"⟩, prog_6_method_4_code, (some .boolean), [], 1, 1247, 214, 1246, 8, 1),
  (⟨"Syntaxspan$Reader", "beginsItem", "(I)Z"⟩, prog_6_method_5_code, (some .boolean), [], 0, 1222, 214, 1221, 0, 1),
  (⟨"Syntaxspan$Reader", "item", "()V"⟩, prog_6_method_6_code, none, [], 1, 1279, 214, 1278, 16, 0),
  (⟨"Syntaxspan$Reader", "useItem", "()Z"⟩, prog_6_method_7_code, (some .boolean), [], 1, 1283, 214, 1282, 17, 0),
  (⟨"Syntaxspan$Reader", "header", "()Z"⟩, prog_6_method_8_code, (some .boolean), [], 1, 1291, 214, 1290, 18, 0),
  (⟨"Syntaxspan$Reader", "openBlock", "(II)V"⟩, prog_6_method_9_code, none, [], 1, 1251, 214, 1250, 9, 2),
  (⟨"Syntaxspan$Reader", "closeBlock", "(Z)V"⟩, prog_6_method_10_code, none, [], 1, 1226, 214, 1225, 7, 1),
  (⟨"Syntaxspan$Reader", "skip", "()V"⟩, prog_6_method_11_code, none, [], 1, 1255, 214, 1254, 10, 0),
  (⟨"Syntaxspan$Reader", "statement", "()V"⟩, prog_6_method_12_code, none, [], 1, 1215, 214, 1214, 5, 0),
  (⟨"Syntaxspan$Reader", "expr", "(Z)Z"⟩, prog_6_method_13_code, (some .boolean), [], 1, 1259, 214, 1258, 11, 1),
  (⟨"Syntaxspan$Reader", "push", "(II)V"⟩, prog_6_method_14_code, none, [], 1, 1263, 214, 1262, 12, 2),
  (⟨"Syntaxspan$Reader", "operand", "()I"⟩, prog_6_method_15_code, (some .int), [], 1, 1267, 214, 1266, 13, 0),
  (⟨"Syntaxspan$Reader", "behind", "()I"⟩, prog_6_method_16_code, (some .int), [], 1, 1271, 214, 1270, 14, 0),
  (⟨"Syntaxspan$Reader", "closeExpr", "(II)I"⟩, prog_6_method_17_code, (some .int), [], 1, 1275, 214, 1274, 15, 2),
  (⟨"Syntaxspan$Repair", "<init>", "()V"⟩, prog_7_method_1_code, none, [], 2, 566, 216, 565, 0, 0),
  (⟨"Syntaxspan$Repair", "least", "(LSyntaxspan$Tokens;II)I"⟩, prog_7_method_2_code, (some .int), [], 1, 1819, 216, 1817, 1818, 3),
  (⟨"Syntaxspan$Repair", "place", "(III)I"⟩, prog_7_method_3_code, (some .int), [], 0, 1829, 216, 1828, 0, 3),
  (⟨"Syntaxspan$Repair", "begin", "(LSyntaxspan$Tokens;III)V"⟩, prog_7_method_4_code, none, [], 1, 1823, 216, 1822, 50, 4),
  (⟨"Syntaxspan$Repair", "settle", "(II)V"⟩, prog_7_method_5_code, none, [], 1, 1833, 216, 1832, 51, 2),
  (⟨"Syntaxspan$Repair", "costOf", "(IIII)I"⟩, prog_7_method_6_code, (some .int), [], 1, 1839, 216, 1838, 52, 4)]
def m_mds2 : List MD := [(⟨"Syntaxspan$Runner", "<init>", "()V"⟩, prog_8_method_1_code, none, [], 2, 576, 217, 575, 0, 0),
  (⟨"Syntaxspan$Runner", "give", "(LSyntaxspan$Desk;IJJ)J"⟩, prog_8_method_2_code, (some .long), [], 1, 2070, 217, 2068, 2069, 4),
  (⟨"Syntaxspan$Runner", "push", "(J)V"⟩, prog_8_method_3_code, none, [], 1, 2074, 217, 2073, 66, 1),
  (⟨"Syntaxspan$Runner", "pop", "()J"⟩, prog_8_method_4_code, (some .long), [], 1, 2110, 217, 2109, 73, 0),
  (⟨"Syntaxspan$Runner", "enter", "(LSyntaxspan$Desk;II)V"⟩, prog_8_method_5_code, none, [], 1, 2078, 217, 2077, 67, 3),
  (⟨"Syntaxspan$Runner", "leave", "(J)V"⟩, prog_8_method_6_code, none, [], 1, 2121, 217, 2120, 75, 1),
  (⟨"Syntaxspan$Runner", "whole", "(LSyntaxspan$Desk;I)V"⟩, prog_8_method_7_code, none, [], 1, 2117, 217, 2116, 74, 2),
  (⟨"Syntaxspan$Runner", "part", "(LSyntaxspan$Desk;I)V"⟩, prog_8_method_8_code, none, [], 1, 2088, 217, 2087, 68, 2),
  (⟨"Syntaxspan$Runner", "pair", "(IJJ)J"⟩, prog_8_method_9_code, (some .long), [], 0, 2113, 217, 2112, 0, 3),
  (⟨"Syntaxspan$Runner", "number", "(LSyntaxspan$Desk;I)J"⟩, prog_8_method_10_code, (some .long), [], 1, 2092, 217, 2091, 69, 2),
  (⟨"Syntaxspan$Runner", "slotAt", "(I)I"⟩, prog_8_method_11_code, (some .int), [], 1, 2102, 217, 2101, 71, 1),
  (⟨"Syntaxspan$Runner", "read", "(I)J"⟩, prog_8_method_12_code, (some .long), [], 1, 2098, 217, 2097, 70, 1),
  (⟨"Syntaxspan$Runner", "store", "(IJ)V"⟩, prog_8_method_13_code, none, [], 1, 2125, 217, 2124, 76, 2),
  (⟨"Syntaxspan$Runner", "call", "(LSyntaxspan$Desk;II)V"⟩, prog_8_method_14_code, none, [], 1, 2106, 217, 2105, 72, 3),
  (⟨"Syntaxspan$Runner", "print", "(LSyntaxspan$Tokens;LSyntaxspan$Tree;)J"⟩, prog_8_method_15_code, (some .long), [], 1, 1851, 217, 1849, 1850, 2),
  (⟨"Syntaxspan$Runner", "numberOf", "(I)I"⟩, prog_8_method_16_code, (some .int), [], 0, 1874, 217, 1873, 0, 1),
  (⟨"Syntaxspan$Runner", "printPart", "(LSyntaxspan$Tokens;IZ)V"⟩, prog_8_method_17_code, none, [], 1, 1857, 217, 1856, 53, 3),
  (⟨"Syntaxspan$Runner", "stack", "(JJ)V"⟩, prog_8_method_18_code, none, [], 1, 1863, 217, 1862, 54, 2),
  (⟨"Syntaxspan$Runner", "join", "(III)V"⟩, prog_8_method_19_code, none, [], 1, 1868, 217, 1867, 55, 3),
  (⟨"Syntaxspan$Scope", "<init>", "()V"⟩, prog_9_method_1_code, none, [], 2, 283, 211, 282, 0, 0),
  (⟨"Syntaxspan$Scope", "begin", "()V"⟩, prog_9_method_2_code, none, [], 1, 1306, 211, 1304, 1305, 0),
  (⟨"Syntaxspan$Scope", "step", "(I)V"⟩, prog_9_method_3_code, none, [], 1, 1316, 211, 1314, 1315, 1),
  (⟨"Syntaxspan$Scope", "find", "(LSyntaxspan$Desk;II)I"⟩, prog_9_method_4_code, (some .int), [], 1, 1352, 211, 1350, 1351, 3),
  (⟨"Syntaxspan$Tokens", "<init>", "()V"⟩, prog_10_method_1_code, none, [], 2, 311, 212, 310, 0, 0),
  (⟨"Syntaxspan$Tokens", "kind", "(I)I"⟩, prog_10_method_2_code, (some .int), [], 1, 1348, 212, 1346, 1347, 1),
  (⟨"Syntaxspan$Tokens", "line", "(I)I"⟩, prog_10_method_3_code, (some .int), [], 1, 1479, 212, 1477, 1478, 1),
  (⟨"Syntaxspan$Tokens", "told", "(I)I"⟩, prog_10_method_4_code, (some .int), [], 1, 1746, 212, 1744, 1745, 1),
  (⟨"Syntaxspan$Tokens", "owner", "(II)I"⟩, prog_10_method_5_code, (some .int), [], 1, 1459, 212, 1457, 1458, 2),
  (⟨"Syntaxspan$Tokens", "endsInside", "(I)Z"⟩, prog_10_method_6_code, (some .boolean), [], 1, 1511, 212, 1509, 1510, 1),
  (⟨"Syntaxspan$Tokens", "afterEdit", "(LSyntaxspan$Lines;II)I"⟩, prog_10_method_7_code, (some .int), [], 1, 1618, 212, 1616, 1617, 3),
  (⟨"Syntaxspan$Tokens", "endOf", "(LSyntaxspan$Lines;IZ)Z"⟩, prog_10_method_8_code, (some .boolean), [], 0, 1622, 212, 1621, 0, 3),
  (⟨"Syntaxspan$Tokens", "turns", "(LSyntaxspan$Lines;IIZ)Z"⟩, prog_10_method_9_code, (some .boolean), [], 0, 750, 212, 749, 0, 4),
  (⟨"Syntaxspan$Tokens", "gather", "(LSyntaxspan$Lines;I)V"⟩, prog_10_method_10_code, none, [], 1, 739, 212, 737, 738, 2),
  (⟨"Syntaxspan$Tokens", "gatherLine", "(LSyntaxspan$Lines;IIZ)Z"⟩, prog_10_method_11_code, (some .boolean), [], 1, 743, 212, 742, 1, 4),
  (⟨"Syntaxspan$Tokens", "add", "(IIII)V"⟩, prog_10_method_12_code, none, [], 1, 892, 212, 891, 2, 4),
  (⟨"Syntaxspan$Tokens", "spanAt", "(LSyntaxspan$Lines;II)I"⟩, prog_10_method_13_code, (some .int), [], 0, 757, 212, 756, 0, 3),
  (⟨"Syntaxspan$Tokens", "classAt", "(LSyntaxspan$Lines;III)I"⟩, prog_10_method_14_code, (some .int), [], 0, 766, 212, 765, 0, 4),
  (⟨"Syntaxspan$Tokens", "pairBrackets", "()V"⟩, prog_10_method_15_code, none, [], 1, 1201, 212, 1200, 4, 0),
  (⟨"Syntaxspan$Tokens", "foldedTo", "(I)I"⟩, prog_10_method_16_code, (some .int), [], 1, 1789, 212, 1787, 1788, 1),
  (⟨"Syntaxspan$Tree", "<init>", "()V"⟩, prog_11_method_1_code, none, [], 2, 364, 213, 363, 0, 0)]
def m_mds3 : List MD := [(⟨"Syntaxspan$Tree", "begin", "()V"⟩, prog_11_method_2_code, none, [], 1, 1211, 213, 1209, 1210, 0),
  (⟨"Syntaxspan$Tree", "emit", "(III)V"⟩, prog_11_method_3_code, none, [], 1, 1234, 213, 1232, 1233, 3),
  (⟨"Syntaxspan$Tree", "aim", "(II)V"⟩, prog_11_method_4_code, none, [], 1, 1242, 213, 1240, 1241, 2),
  (⟨"Syntaxspan$Tree", "tell", "(III)V"⟩, prog_11_method_5_code, none, [], 1, 1230, 213, 1228, 1229, 3),
  (⟨"Syntaxspan$Tree", "tells", "(I)Z"⟩, prog_11_method_6_code, (some .boolean), [], 1, 1901, 213, 1899, 1900, 1),
  (⟨"Syntaxspan$Tree", "addFunction", "(II)V"⟩, prog_11_method_7_code, none, [], 1, 1295, 213, 1293, 1294, 2),
  (⟨"Syntaxspan$Tree", "endFunction", "(I)V"⟩, prog_11_method_8_code, none, [], 1, 1238, 213, 1236, 1237, 1),
  (⟨"Syntaxspan$Tree", "addUse", "(I)V"⟩, prog_11_method_9_code, none, [], 1, 1287, 213, 1285, 1286, 1),
  (⟨"Syntaxspan$Tree", "functionOf", "(I)I"⟩, prog_11_method_10_code, (some .int), [], 1, 1389, 213, 1387, 1388, 1),
  (⟨"Syntaxspan$Types", "<init>", "()V"⟩, prog_12_method_1_code, none, [], 2, 539, 215, 538, 0, 0),
  (⟨"Syntaxspan$Types", "findAll", "(LSyntaxspan$Desk;)V"⟩, prog_12_method_2_code, none, [], 1, 1357, 215, 1355, 1356, 1),
  (⟨"Syntaxspan$Types", "whole", "(LSyntaxspan$Desk;III)V"⟩, prog_12_method_3_code, none, [], 1, 1405, 215, 1404, 29, 4),
  (⟨"Syntaxspan$Types", "part", "(LSyntaxspan$Desk;II)V"⟩, prog_12_method_4_code, none, [], 1, 1363, 215, 1362, 23, 3),
  (⟨"Syntaxspan$Types", "call", "(LSyntaxspan$Desk;II)V"⟩, prog_12_method_5_code, none, [], 1, 1376, 215, 1375, 25, 3),
  (⟨"Syntaxspan$Types", "push", "(II)V"⟩, prog_12_method_6_code, none, [], 1, 1371, 215, 1370, 24, 2),
  (⟨"Syntaxspan$Types", "slotOf", "(LSyntaxspan$Desk;I)I"⟩, prog_12_method_7_code, (some .int), [], 0, 1367, 215, 1366, 0, 2),
  (⟨"Syntaxspan$Types", "alike", "(III)V"⟩, prog_12_method_8_code, none, [], 1, 1397, 215, 1396, 27, 3),
  (⟨"Syntaxspan$Types", "tell", "(I)V"⟩, prog_12_method_9_code, none, [], 1, 1393, 215, 1392, 26, 1),
  (⟨"Syntaxspan$Types", "headOf", "(I)I"⟩, prog_12_method_10_code, (some .int), [], 1, 1401, 215, 1400, 28, 1),
  (⟨"Syntaxspan$Types", "typeAt", "(I)I"⟩, prog_12_method_11_code, (some .int), [], 1, 1947, 215, 1945, 1946, 1),
  (⟨"Syntaxspan", "<init>", "()V"⟩, prog_1_method_1_code, none, [], 2, 245, 208, 244, 0, 0),
  (⟨"Syntaxspan", "insert", "(IIIC)I"⟩, prog_1_method_2_code, (some .int), [], 1, 1564, 208, 1562, 1563, 4),
  (⟨"Syntaxspan", "erase", "(III)C"⟩, prog_1_method_3_code, (some .char), [], 1, 1633, 208, 1631, 1632, 3),
  (⟨"Syntaxspan", "paste", "(III)I"⟩, prog_1_method_4_code, (some .int), [], 1, 1648, 208, 1646, 1647, 3),
  (⟨"Syntaxspan", "clear", "(II)I"⟩, prog_1_method_5_code, (some .int), [], 1, 1682, 208, 1680, 1681, 2),
  (⟨"Syntaxspan", "save", "(I)I"⟩, prog_1_method_6_code, (some .int), [], 1, 1690, 208, 1688, 1689, 1),
  (⟨"Syntaxspan", "back", "(I)I"⟩, prog_1_method_7_code, (some .int), [], 1, 1709, 208, 1707, 1708, 1),
  (⟨"Syntaxspan", "charAt", "(III)C"⟩, prog_1_method_8_code, (some .char), [], 1, 1716, 208, 1714, 1715, 3),
  (⟨"Syntaxspan", "length", "(II)I"⟩, prog_1_method_9_code, (some .int), [], 1, 1724, 208, 1722, 1723, 2),
  (⟨"Syntaxspan", "relexed", "()I"⟩, prog_1_method_10_code, (some .int), [], 1, 723, 208, 721, 722, 0),
  (⟨"Syntaxspan", "tokens", "(I)I"⟩, prog_1_method_11_code, (some .int), [], 1, 1731, 208, 1729, 1730, 1),
  (⟨"Syntaxspan", "token", "(II)I"⟩, prog_1_method_12_code, (some .int), [], 1, 1738, 208, 1736, 1737, 2),
  (⟨"Syntaxspan", "tokenAnew", "(II)I"⟩, prog_1_method_13_code, (some .int), [], 1, 1753, 208, 1751, 1752, 2),
  (⟨"Syntaxspan", "colour", "(III)I"⟩, prog_1_method_14_code, (some .int), [], 1, 1765, 208, 1763, 1764, 3),
  (⟨"Syntaxspan", "partner", "(II)I"⟩, prog_1_method_15_code, (some .int), [], 1, 1778, 208, 1776, 1777, 2),
  (⟨"Syntaxspan", "fold", "(II)I"⟩, prog_1_method_16_code, (some .int), [], 1, 1785, 208, 1783, 1784, 2),
  (⟨"Syntaxspan", "errors", "(I)I"⟩, prog_1_method_17_code, (some .int), [], 1, 1797, 208, 1795, 1796, 1),
  (⟨"Syntaxspan", "errorAt", "(II)I"⟩, prog_1_method_18_code, (some .int), [], 1, 1804, 208, 1802, 1803, 2),
  (⟨"Syntaxspan", "repair", "(II)I"⟩, prog_1_method_19_code, (some .int), [], 1, 1815, 208, 1813, 1814, 2),
  (⟨"Syntaxspan", "tree", "(I)J"⟩, prog_1_method_20_code, (some .long), [], 1, 1847, 208, 1845, 1846, 1)]
def m_mds4 : List MD := [(⟨"Syntaxspan", "may", "(II)I"⟩, prog_1_method_21_code, (some .int), [], 1, 1881, 208, 1879, 1880, 2),
  (⟨"Syntaxspan", "functions", "(I)I"⟩, prog_1_method_22_code, (some .int), [], 1, 1908, 208, 1906, 1907, 1),
  (⟨"Syntaxspan", "functionAt", "(II)I"⟩, prog_1_method_23_code, (some .int), [], 1, 1915, 208, 1913, 1914, 2),
  (⟨"Syntaxspan", "binding", "(II)I"⟩, prog_1_method_24_code, (some .int), [], 1, 1926, 208, 1924, 1925, 2),
  (⟨"Syntaxspan", "bindingAnew", "(II)I"⟩, prog_1_method_25_code, (some .int), [], 1, 1936, 208, 1934, 1935, 2),
  (⟨"Syntaxspan", "typeOf", "(II)I"⟩, prog_1_method_26_code, (some .int), [], 1, 1943, 208, 1941, 1942, 2),
  (⟨"Syntaxspan", "typeErrors", "()I"⟩, prog_1_method_27_code, (some .int), [], 1, 727, 208, 725, 726, 0),
  (⟨"Syntaxspan", "typeErrorAt", "(I)I"⟩, prog_1_method_28_code, (some .int), [], 1, 1954, 208, 1952, 1953, 1),
  (⟨"Syntaxspan", "spell", "(C)I"⟩, prog_1_method_29_code, (some .int), [], 1, 1961, 208, 1959, 1960, 1),
  (⟨"Syntaxspan", "clearName", "()I"⟩, prog_1_method_30_code, (some .int), [], 1, 1409, 208, 1407, 1408, 0),
  (⟨"Syntaxspan", "completions", "(II)I"⟩, prog_1_method_31_code, (some .int), [], 1, 1968, 208, 1966, 1967, 2),
  (⟨"Syntaxspan", "completionAt", "(III)I"⟩, prog_1_method_32_code, (some .int), [], 1, 2011, 208, 2009, 2010, 3),
  (⟨"Syntaxspan", "planRename", "(II)I"⟩, prog_1_method_33_code, (some .int), [], 1, 2018, 208, 2016, 2017, 2),
  (⟨"Syntaxspan", "planInline", "(II)I"⟩, prog_1_method_34_code, (some .int), [], 1, 2037, 208, 2035, 2036, 2),
  (⟨"Syntaxspan", "planMove", "(III)I"⟩, prog_1_method_35_code, (some .int), [], 1, 2048, 208, 2046, 2047, 3),
  (⟨"Syntaxspan", "clearPlan", "()I"⟩, prog_1_method_36_code, (some .int), [], 1, 1413, 208, 1411, 1412, 0),
  (⟨"Syntaxspan", "reason", "()I"⟩, prog_1_method_37_code, (some .int), [], 1, 1421, 208, 1419, 1420, 0),
  (⟨"Syntaxspan", "carryOut", "()I"⟩, prog_1_method_38_code, (some .int), [], 1, 2059, 208, 2057, 2058, 0),
  (⟨"Syntaxspan", "run", "(IIII)J"⟩, prog_1_method_39_code, (some .long), [], 1, 2066, 208, 2064, 2065, 4),
  (⟨"Syntaxspan", "needFile", "(I)V"⟩, prog_1_method_40_code, none, [], 0, 1693, 208, 1692, 0, 1),
  (⟨"Syntaxspan", "needLine", "(II)V"⟩, prog_1_method_41_code, none, [], 0, 1567, 208, 1566, 0, 2),
  (⟨"Syntaxspan", "needColumn", "(III)V"⟩, prog_1_method_42_code, none, [], 1, 1637, 208, 1636, 46, 3),
  (⟨"Syntaxspan", "needToken", "(II)V"⟩, prog_1_method_43_code, none, [], 1, 1742, 208, 1741, 47, 2),
  (⟨"Syntaxspan", "needPlace", "(II)V"⟩, prog_1_method_44_code, none, [], 1, 1885, 208, 1884, 56, 2),
  (⟨"Syntaxspan", "needError", "(II)V"⟩, prog_1_method_45_code, none, [], 1, 1808, 208, 1807, 49, 2),
  (⟨"Syntaxspan", "needFunction", "(II)V"⟩, prog_1_method_46_code, none, [], 1, 1919, 208, 1918, 58, 2),
  (⟨"Syntaxspan", "needRoom", "()V"⟩, prog_1_method_47_code, none, [], 1, 2022, 208, 2021, 64, 0),
  (⟨"Syntaxspan", "changed", "(IIZ)V"⟩, prog_1_method_48_code, none, [], 1, 1614, 208, 1613, 45, 3),
  (⟨"Syntaxspan", "fresh", "()LSyntaxspan$Desk;"⟩, prog_1_method_49_code, (some (.object "Syntaxspan$Desk")), [], 1, 731, 208, 730, 0, 0),
  (⟨"Syntaxspan", "anew", "()V"⟩, prog_1_method_50_code, none, [], 1, 1757, 208, 1756, 48, 0),
  (⟨"Syntaxspan", "copyFile", "(LSyntaxspan$Lines;LSyntaxspan$Lines;I)I"⟩, prog_1_method_51_code, (some .int), [], 0, 1696, 208, 1695, 0, 3),
  (⟨"Syntaxspan", "toldId", "(I)I"⟩, prog_1_method_52_code, (some .int), [], 0, 1929, 208, 1928, 0, 1),
  (⟨"Syntaxspan", "colourOf", "(LSyntaxspan$Desk;II)I"⟩, prog_1_method_53_code, (some .int), [], 0, 1769, 208, 1768, 0, 3),
  (⟨"Syntaxspan", "fragmentText", "(I)Ljava/lang/String;"⟩, prog_1_method_54_code, (some (.object "java/lang/String")), [], 0, 1651, 208, 1650, 0, 1),
  (⟨"Syntaxspan", "wordText", "(I)Ljava/lang/String;"⟩, prog_1_method_55_code, (some (.object "java/lang/String")), [], 0, 772, 208, 771, 0, 1),
  (⟨"Syntaxspan", "kindOfWord", "([CII)I"⟩, prog_1_method_56_code, (some .int), [], 0, 769, 208, 768, 0, 3),
  (⟨"Syntaxspan", "isLetter", "(C)Z"⟩, prog_1_method_57_code, (some .boolean), [], 0, 760, 208, 759, 0, 1),
  (⟨"Syntaxspan", "isDigit", "(C)Z"⟩, prog_1_method_58_code, (some .boolean), [], 0, 763, 208, 762, 0, 1),
  (⟨"Syntaxspan", "opOf", "(I)I"⟩, prog_1_method_59_code, (some .int), [], 0, 1309, 208, 1308, 0, 1),
  (⟨"Syntaxspan", "tokenOf", "(I)I"⟩, prog_1_method_60_code, (some .int), [], 0, 1312, 208, 1311, 0, 1)]
def m_mds5 : List MD := [(⟨"Syntaxspan", "extraOf", "(I)I"⟩, prog_1_method_61_code, (some .int), [], 0, 1322, 208, 1321, 0, 1),
  (⟨"SyntaxspanModel", "<init>", "()V"⟩, prog_14_method_1_code, none, [], 2, 2130, 220, 2129, 0, 0),
  (⟨"SyntaxspanModel", "thrown", "()I"⟩, prog_14_method_2_code, (some .int), [], 1, 2490, 220, 2488, 2489, 0),
  (⟨"SyntaxspanModel", "in", "(III)Z"⟩, prog_14_method_3_code, (some .boolean), [], 0, 2504, 220, 2503, 0, 3),
  (⟨"SyntaxspanModel", "isFile", "(I)Z"⟩, prog_14_method_4_code, (some .boolean), [], 0, 2501, 220, 2500, 0, 1),
  (⟨"SyntaxspanModel", "isLine", "(II)Z"⟩, prog_14_method_5_code, (some .boolean), [], 0, 2789, 220, 2788, 0, 2),
  (⟨"SyntaxspanModel", "at", "(II)I"⟩, prog_14_method_6_code, (some .int), [], 1, 2528, 220, 2527, 83, 2),
  (⟨"SyntaxspanModel", "isLetter", "(I)Z"⟩, prog_14_method_7_code, (some .boolean), [], 0, 2542, 220, 2541, 0, 1),
  (⟨"SyntaxspanModel", "isDigit", "(I)Z"⟩, prog_14_method_8_code, (some .boolean), [], 0, 2549, 220, 2548, 0, 1),
  (⟨"SyntaxspanModel", "pack", "(IIII)I"⟩, prog_14_method_9_code, (some .int), [], 0, 2555, 220, 2554, 0, 4),
  (⟨"SyntaxspanModel", "wordClass", "(I)I"⟩, prog_14_method_10_code, (some .int), [], 0, 2552, 220, 2551, 0, 1),
  (⟨"SyntaxspanModel", "signClass", "(I)I"⟩, prog_14_method_11_code, (some .int), [], 0, 2539, 220, 2538, 0, 1),
  (⟨"SyntaxspanModel", "addToken", "(IIIII)V"⟩, prog_14_method_12_code, none, [], 1, 2559, 220, 2558, 87, 5),
  (⟨"SyntaxspanModel", "commentEnd", "(II)I"⟩, prog_14_method_13_code, (some .int), [], 1, 2532, 220, 2531, 84, 2),
  (⟨"SyntaxspanModel", "longest", "(IIZ)I"⟩, prog_14_method_14_code, (some .int), [], 1, 2546, 220, 2545, 86, 3),
  (⟨"SyntaxspanModel", "layToken", "(III)I"⟩, prog_14_method_15_code, (some .int), [], 1, 2536, 220, 2535, 85, 3),
  (⟨"SyntaxspanModel", "lexLine", "(IIZ)Z"⟩, prog_14_method_16_code, (some .boolean), [], 1, 2524, 220, 2523, 82, 3),
  (⟨"SyntaxspanModel", "lex", "(I)V"⟩, prog_14_method_17_code, none, [], 1, 2520, 220, 2519, 81, 1),
  (⟨"SyntaxspanModel", "lexAll", "()V"⟩, prog_14_method_18_code, none, [], 1, 2516, 220, 2515, 80, 0),
  (⟨"SyntaxspanModel", "codeOf", "(II)I"⟩, prog_14_method_19_code, (some .int), [], 1, 2709, 220, 2708, 123, 2),
  (⟨"SyntaxspanModel", "areAlike", "(II)Z"⟩, prog_14_method_20_code, (some .boolean), [], 1, 2705, 220, 2704, 122, 2),
  (⟨"SyntaxspanModel", "make", "(II)I"⟩, prog_14_method_21_code, (some .int), [], 1, 2579, 220, 2578, 92, 2),
  (⟨"SyntaxspanModel", "tellError", "(III)V"⟩, prog_14_method_22_code, none, [], 1, 2599, 220, 2598, 97, 3),
  (⟨"SyntaxspanModel", "rank", "(I)I"⟩, prog_14_method_23_code, (some .int), [], 0, 2641, 220, 2640, 0, 1),
  (⟨"SyntaxspanModel", "pair", "()V"⟩, prog_14_method_24_code, none, [], 1, 2645, 220, 2644, 107, 0),
  (⟨"SyntaxspanModel", "pairAll", "(I)V"⟩, prog_14_method_25_code, none, [], 1, 2638, 220, 2637, 106, 1),
  (⟨"SyntaxspanModel", "put", "(I)V"⟩, prog_14_method_26_code, none, [], 1, 2657, 220, 2656, 110, 1),
  (⟨"SyntaxspanModel", "putPlain", "(II)V"⟩, prog_14_method_27_code, none, [], 1, 2653, 220, 2652, 109, 2),
  (⟨"SyntaxspanModel", "openBracket", "(I)V"⟩, prog_14_method_28_code, none, [], 1, 2661, 220, 2660, 111, 1),
  (⟨"SyntaxspanModel", "addArgument", "()V"⟩, prog_14_method_29_code, none, [], 1, 2649, 220, 2648, 108, 0),
  (⟨"SyntaxspanModel", "closeBracket", "(ZI)V"⟩, prog_14_method_30_code, none, [], 1, 2634, 220, 2633, 105, 2),
  (⟨"SyntaxspanModel", "takesUnit", "(Z)Z"⟩, prog_14_method_31_code, (some .boolean), [], 1, 2630, 220, 2629, 104, 1),
  (⟨"SyntaxspanModel", "goesOn", "()Z"⟩, prog_14_method_32_code, (some .boolean), [], 1, 2665, 220, 2664, 112, 0),
  (⟨"SyntaxspanModel", "readExpr", "(Z)V"⟩, prog_14_method_33_code, none, [], 1, 2626, 220, 2625, 103, 1),
  (⟨"SyntaxspanModel", "beginsItem", "(I)Z"⟩, prog_14_method_34_code, (some .boolean), [], 0, 2602, 220, 2601, 0, 1),
  (⟨"SyntaxspanModel", "addItem", "(I)V"⟩, prog_14_method_35_code, none, [], 1, 2583, 220, 2582, 93, 1),
  (⟨"SyntaxspanModel", "failItem", "(I)V"⟩, prog_14_method_36_code, none, [], 1, 2595, 220, 2594, 96, 1),
  (⟨"SyntaxspanModel", "openBlock", "(III)V"⟩, prog_14_method_37_code, none, [], 1, 2587, 220, 2586, 94, 3),
  (⟨"SyntaxspanModel", "addStatement", "(I)V"⟩, prog_14_method_38_code, none, [], 1, 2591, 220, 2590, 95, 1),
  (⟨"SyntaxspanModel", "readFunction", "()V"⟩, prog_14_method_39_code, none, [], 1, 2575, 220, 2574, 91, 0)]
def m_mds6 : List MD := [(⟨"SyntaxspanModel", "readItem", "()V"⟩, prog_14_method_40_code, none, [], 1, 2571, 220, 2570, 90, 0),
  (⟨"SyntaxspanModel", "skip", "()V"⟩, prog_14_method_41_code, none, [], 1, 2614, 220, 2613, 100, 0),
  (⟨"SyntaxspanModel", "breakStatement", "(II)V"⟩, prog_14_method_42_code, none, [], 1, 2618, 220, 2617, 101, 2),
  (⟨"SyntaxspanModel", "closeBlock", "(I)V"⟩, prog_14_method_43_code, none, [], 1, 2610, 220, 2609, 99, 1),
  (⟨"SyntaxspanModel", "readRest", "(IIIII)V"⟩, prog_14_method_44_code, none, [], 1, 2622, 220, 2621, 102, 5),
  (⟨"SyntaxspanModel", "readStatement", "()V"⟩, prog_14_method_45_code, none, [], 1, 2606, 220, 2605, 98, 0),
  (⟨"SyntaxspanModel", "read", "()V"⟩, prog_14_method_46_code, none, [], 1, 2567, 220, 2566, 89, 0),
  (⟨"SyntaxspanModel", "laySeq", "(II)V"⟩, prog_14_method_47_code, none, [], 1, 2563, 220, 2562, 88, 2),
  (⟨"SyntaxspanModel", "readAll", "()V"⟩, prog_14_method_48_code, none, [], 1, 2512, 220, 2511, 79, 0),
  (⟨"SyntaxspanModel", "later", "(II)V"⟩, prog_14_method_49_code, none, [], 1, 2681, 220, 2680, 116, 2),
  (⟨"SyntaxspanModel", "openStatement", "(I)V"⟩, prog_14_method_50_code, none, [], 1, 2685, 220, 2684, 117, 1),
  (⟨"SyntaxspanModel", "openExpr", "(I)V"⟩, prog_14_method_51_code, none, [], 1, 2689, 220, 2688, 118, 1),
  (⟨"SyntaxspanModel", "layOrder", "(I)V"⟩, prog_14_method_52_code, none, [], 1, 2677, 220, 2676, 115, 1),
  (⟨"SyntaxspanModel", "functionNamed", "(II)I"⟩, prog_14_method_53_code, (some .int), [], 1, 2721, 220, 2720, 126, 2),
  (⟨"SyntaxspanModel", "usedBy", "(II)I"⟩, prog_14_method_54_code, (some .int), [], 1, 2725, 220, 2724, 127, 2),
  (⟨"SyntaxspanModel", "functionFor", "(II)I"⟩, prog_14_method_55_code, (some .int), [], 1, 2717, 220, 2716, 125, 2),
  (⟨"SyntaxspanModel", "parameterFor", "(III)I"⟩, prog_14_method_56_code, (some .int), [], 1, 2713, 220, 2712, 124, 3),
  (⟨"SyntaxspanModel", "variableIn", "(IIII)I"⟩, prog_14_method_57_code, (some .int), [], 1, 2701, 220, 2700, 121, 4),
  (⟨"SyntaxspanModel", "variableFor", "(III)I"⟩, prog_14_method_58_code, (some .int), [], 1, 2697, 220, 2696, 120, 3),
  (⟨"SyntaxspanModel", "isOfStatements", "(I)Z"⟩, prog_14_method_59_code, (some .boolean), [], 1, 2693, 220, 2692, 119, 1),
  (⟨"SyntaxspanModel", "bindFunction", "(II)V"⟩, prog_14_method_60_code, none, [], 1, 2673, 220, 2672, 114, 2),
  (⟨"SyntaxspanModel", "bindAll", "()V"⟩, prog_14_method_61_code, none, [], 1, 2669, 220, 2668, 113, 0),
  (⟨"SyntaxspanModel", "look", "()V"⟩, prog_14_method_62_code, none, [], 1, 2508, 220, 2507, 78, 0),
  (⟨"SyntaxspanModel", "root", "(I)I"⟩, prog_14_method_63_code, (some .int), [], 1, 3026, 220, 3025, 172, 1),
  (⟨"SyntaxspanModel", "thing", "(I)I"⟩, prog_14_method_64_code, (some .int), [], 0, 3018, 220, 3017, 0, 1),
  (⟨"SyntaxspanModel", "mistake", "(II)V"⟩, prog_14_method_65_code, none, [], 1, 3030, 220, 3029, 173, 2),
  (⟨"SyntaxspanModel", "makeType", "(III)V"⟩, prog_14_method_66_code, none, [], 1, 3034, 220, 3033, 174, 3),
  (⟨"SyntaxspanModel", "makeAlike", "(III)V"⟩, prog_14_method_67_code, none, [], 1, 3022, 220, 3021, 171, 3),
  (⟨"SyntaxspanModel", "typePair", "(II)V"⟩, prog_14_method_68_code, none, [], 1, 3015, 220, 3014, 170, 2),
  (⟨"SyntaxspanModel", "many", "(I)I"⟩, prog_14_method_69_code, (some .int), [], 1, 2771, 220, 2770, 138, 1),
  (⟨"SyntaxspanModel", "functionNode", "(I)I"⟩, prog_14_method_70_code, (some .int), [], 1, 2737, 220, 2736, 130, 1),
  (⟨"SyntaxspanModel", "typeCall", "(II)V"⟩, prog_14_method_71_code, none, [], 1, 3038, 220, 3037, 175, 2),
  (⟨"SyntaxspanModel", "typeNode", "(III)V"⟩, prog_14_method_72_code, none, [], 1, 3011, 220, 3010, 169, 3),
  (⟨"SyntaxspanModel", "typeAll", "()V"⟩, prog_14_method_73_code, none, [], 1, 3007, 220, 3006, 168, 0),
  (⟨"SyntaxspanModel", "printNumber", "(I)V"⟩, prog_14_method_74_code, none, [], 1, 2969, 220, 2968, 165, 1),
  (⟨"SyntaxspanModel", "printLater", "(I)V"⟩, prog_14_method_75_code, none, [], 1, 2965, 220, 2964, 164, 1),
  (⟨"SyntaxspanModel", "printNode", "(IZ)V"⟩, prog_14_method_76_code, none, [], 1, 2974, 220, 2973, 166, 2),
  (⟨"SyntaxspanModel", "printOf", "(I)J"⟩, prog_14_method_77_code, (some .long), [], 1, 2960, 220, 2959, 163, 1),
  (⟨"SyntaxspanModel", "task", "(II)V"⟩, prog_14_method_78_code, none, [], 1, 2749, 220, 2748, 133, 2),
  (⟨"SyntaxspanModel", "give", "(J)V"⟩, prog_14_method_79_code, none, [], 1, 2729, 220, 2728, 128, 1)]
def m_mds7 : List MD := [(⟨"SyntaxspanModel", "taken", "()J"⟩, prog_14_method_80_code, (some .long), [], 1, 2775, 220, 2774, 139, 0),
  (⟨"SyntaxspanModel", "cell", "(I)I"⟩, prog_14_method_81_code, (some .int), [], 1, 2741, 220, 2740, 131, 1),
  (⟨"SyntaxspanModel", "here", "(I)I"⟩, prog_14_method_82_code, (some .int), [], 1, 2745, 220, 2744, 132, 1),
  (⟨"SyntaxspanModel", "doStatement", "(I)V"⟩, prog_14_method_83_code, none, [], 1, 2757, 220, 2756, 135, 1),
  (⟨"SyntaxspanModel", "plainValue", "(I)J"⟩, prog_14_method_84_code, (some .long), [], 1, 2765, 220, 2764, 137, 1),
  (⟨"SyntaxspanModel", "doExpr", "(I)V"⟩, prog_14_method_85_code, none, [], 1, 2761, 220, 2760, 136, 1),
  (⟨"SyntaxspanModel", "pairValue", "(IJJ)J"⟩, prog_14_method_86_code, (some .long), [], 0, 2778, 220, 2777, 0, 3),
  (⟨"SyntaxspanModel", "enter", "(II)V"⟩, prog_14_method_87_code, none, [], 1, 2733, 220, 2732, 129, 2),
  (⟨"SyntaxspanModel", "doCall", "(I)V"⟩, prog_14_method_88_code, none, [], 1, 2782, 220, 2781, 140, 1),
  (⟨"SyntaxspanModel", "doTask", "(II)V"⟩, prog_14_method_89_code, none, [], 1, 2753, 220, 2752, 134, 2),
  (⟨"SyntaxspanModel", "run", "(IIII)J"⟩, prog_14_method_90_code, (some .long), [], 1, 2494, 220, 2492, 2493, 4),
  (⟨"SyntaxspanModel", "functionOf", "(II)I"⟩, prog_14_method_91_code, (some .int), [], 1, 2498, 220, 2497, 77, 2),
  (⟨"SyntaxspanModel", "costOf", "(III)I"⟩, prog_14_method_92_code, (some .int), [], 1, 2948, 220, 2947, 161, 3),
  (⟨"SyntaxspanModel", "setCost", "(IIII)V"⟩, prog_14_method_93_code, none, [], 1, 2940, 220, 2939, 159, 4),
  (⟨"SyntaxspanModel", "isOf", "(II)Z"⟩, prog_14_method_94_code, (some .boolean), [], 0, 2936, 220, 2935, 0, 2),
  (⟨"SyntaxspanModel", "layTerminals", "()V"⟩, prog_14_method_95_code, none, [], 1, 2933, 220, 2932, 158, 0),
  (⟨"SyntaxspanModel", "couple", "(III)V"⟩, prog_14_method_96_code, none, [], 1, 2944, 220, 2943, 160, 3),
  (⟨"SyntaxspanModel", "canBe", "(II)V"⟩, prog_14_method_97_code, none, [], 1, 2952, 220, 2951, 162, 2),
  (⟨"SyntaxspanModel", "repairOfRun", "()I"⟩, prog_14_method_98_code, (some .int), [], 1, 2929, 220, 2928, 157, 0),
  (⟨"SyntaxspanModel", "errsWith", "(III)Z"⟩, prog_14_method_99_code, (some .boolean), [], 1, 2982, 220, 2981, 167, 3),
  (⟨"SyntaxspanModel", "isSpelled", "(I)Z"⟩, prog_14_method_100_code, (some .boolean), [], 1, 3074, 220, 3073, 179, 1),
  (⟨"SyntaxspanModel", "addToScope", "(II)V"⟩, prog_14_method_101_code, none, [], 1, 3070, 220, 3069, 178, 2),
  (⟨"SyntaxspanModel", "addVariables", "(II)V"⟩, prog_14_method_102_code, none, [], 1, 3066, 220, 3065, 177, 2),
  (⟨"SyntaxspanModel", "addFunctions", "(II)V"⟩, prog_14_method_103_code, none, [], 1, 3078, 220, 3077, 180, 2),
  (⟨"SyntaxspanModel", "layScope", "(II)V"⟩, prog_14_method_104_code, none, [], 1, 3062, 220, 3061, 176, 2),
  (⟨"SyntaxspanModel", "layPartners", "(I)V"⟩, prog_14_method_105_code, none, [], 1, 2905, 220, 2904, 155, 1),
  (⟨"SyntaxspanModel", "isFunction", "(I)Z"⟩, prog_14_method_106_code, (some .boolean), [], 1, 2897, 220, 2896, 154, 1),
  (⟨"SyntaxspanModel", "colourOf", "(I)I"⟩, prog_14_method_107_code, (some .int), [], 1, 2893, 220, 2892, 153, 1),
  (⟨"SyntaxspanModel", "tokenWith", "(III)I"⟩, prog_14_method_108_code, (some .int), [], 1, 2889, 220, 2888, 152, 3),
  (⟨"SyntaxspanModel", "copy", "([I[II)V"⟩, prog_14_method_109_code, none, [], 0, 3113, 220, 3112, 0, 3),
  (⟨"SyntaxspanModel", "beginRow", "()V"⟩, prog_14_method_110_code, none, [], 1, 3140, 220, 3139, 188, 0),
  (⟨"SyntaxspanModel", "putNext", "(II)V"⟩, prog_14_method_111_code, none, [], 1, 3144, 220, 3143, 189, 2),
  (⟨"SyntaxspanModel", "insertCode", "(I)V"⟩, prog_14_method_112_code, none, [], 1, 3132, 220, 3131, 186, 1),
  (⟨"SyntaxspanModel", "replaceAll", "(IZ)V"⟩, prog_14_method_113_code, none, [], 1, 3136, 220, 3135, 187, 2),
  (⟨"SyntaxspanModel", "key", "(II)I"⟩, prog_14_method_114_code, (some .int), [], 0, 3128, 220, 3127, 0, 2),
  (⟨"SyntaxspanModel", "keepBindings", "()V"⟩, prog_14_method_115_code, none, [], 1, 3125, 220, 3124, 185, 0),
  (⟨"SyntaxspanModel", "renames", "(II)I"⟩, prog_14_method_116_code, (some .int), [], 1, 3121, 220, 3120, 184, 2),
  (⟨"SyntaxspanModel", "letOf", "(I)I"⟩, prog_14_method_117_code, (some .int), [], 1, 3152, 220, 3151, 191, 1),
  (⟨"SyntaxspanModel", "isSet", "(II)Z"⟩, prog_14_method_118_code, (some .boolean), [], 1, 3160, 220, 3159, 193, 2),
  (⟨"SyntaxspanModel", "areBoundAlike", "(IIII)Z"⟩, prog_14_method_119_code, (some .boolean), [], 1, 3164, 220, 3163, 194, 4)]
def m_mds8 : List MD := [(⟨"SyntaxspanModel", "canInline", "(III)Z"⟩, prog_14_method_120_code, (some .boolean), [], 1, 3156, 220, 3155, 192, 3),
  (⟨"SyntaxspanModel", "inlines", "(I)I"⟩, prog_14_method_121_code, (some .int), [], 1, 3148, 220, 3147, 190, 1),
  (⟨"SyntaxspanModel", "layRow", "(II)V"⟩, prog_14_method_122_code, none, [], 1, 3184, 220, 3183, 199, 2),
  (⟨"SyntaxspanModel", "takeRows", "()V"⟩, prog_14_method_123_code, none, [], 1, 3188, 220, 3187, 200, 0),
  (⟨"SyntaxspanModel", "lastLineOf", "(I)I"⟩, prog_14_method_124_code, (some .int), [], 1, 3176, 220, 3175, 197, 1),
  (⟨"SyntaxspanModel", "shiftLines", "(IIIII)Z"⟩, prog_14_method_125_code, (some .boolean), [], 1, 3180, 220, 3179, 198, 5),
  (⟨"SyntaxspanModel", "addUse", "(II)Z"⟩, prog_14_method_126_code, (some .boolean), [], 1, 3204, 220, 3203, 204, 2),
  (⟨"SyntaxspanModel", "layMoved", "()V"⟩, prog_14_method_127_code, none, [], 1, 3192, 220, 3191, 201, 0),
  (⟨"SyntaxspanModel", "uses", "(II)Z"⟩, prog_14_method_128_code, (some .boolean), [], 1, 3200, 220, 3199, 203, 2),
  (⟨"SyntaxspanModel", "needs", "(II)Z"⟩, prog_14_method_129_code, (some .boolean), [], 1, 3196, 220, 3195, 202, 2),
  (⟨"SyntaxspanModel", "canMove", "(IIII)Z"⟩, prog_14_method_130_code, (some .boolean), [], 1, 3172, 220, 3171, 196, 4),
  (⟨"SyntaxspanModel", "moves", "(II)I"⟩, prog_14_method_131_code, (some .int), [], 1, 3168, 220, 3167, 195, 2),
  (⟨"SyntaxspanModel", "change", "(I)I"⟩, prog_14_method_132_code, (some .int), [], 1, 3117, 220, 3116, 183, 1),
  (⟨"SyntaxspanModel", "play", "()I"⟩, prog_14_method_133_code, (some .int), [], 1, 3110, 220, 3109, 182, 0),
  (⟨"SyntaxspanModel", "takeBack", "()V"⟩, prog_14_method_134_code, none, [], 1, 3208, 220, 3207, 205, 0),
  (⟨"SyntaxspanModel", "changed", "()V"⟩, prog_14_method_135_code, none, [], 1, 2797, 220, 2796, 142, 0),
  (⟨"SyntaxspanModel", "keepModes", "(I)V"⟩, prog_14_method_136_code, none, [], 1, 2793, 220, 2792, 141, 1),
  (⟨"SyntaxspanModel", "tellRelexed", "(II)V"⟩, prog_14_method_137_code, none, [], 1, 2801, 220, 2800, 143, 2),
  (⟨"SyntaxspanModel", "insert", "(IIIC)I"⟩, prog_14_method_138_code, (some .int), [], 1, 2786, 220, 2784, 2785, 4),
  (⟨"SyntaxspanModel", "erase", "(III)C"⟩, prog_14_method_139_code, (some .char), [], 1, 2805, 220, 2803, 2804, 3),
  (⟨"SyntaxspanModel", "f", "(I)V"⟩, prog_14_method_140_code, none, [], 1, 2821, 220, 2820, 146, 1),
  (⟨"SyntaxspanModel", "g", "(IIII)V"⟩, prog_14_method_141_code, none, [], 1, 2817, 220, 2816, 145, 4),
  (⟨"SyntaxspanModel", "layFragment", "(I)V"⟩, prog_14_method_142_code, none, [], 1, 2813, 220, 2812, 144, 1),
  (⟨"SyntaxspanModel", "layFurther", "(I)V"⟩, prog_14_method_143_code, none, [], 1, 2825, 220, 2824, 147, 1),
  (⟨"SyntaxspanModel", "paste", "(III)I"⟩, prog_14_method_144_code, (some .int), [], 1, 2809, 220, 2807, 2808, 3),
  (⟨"SyntaxspanModel", "clear", "(II)I"⟩, prog_14_method_145_code, (some .int), [], 1, 2829, 220, 2827, 2828, 2),
  (⟨"SyntaxspanModel", "unsaved", "(I)I"⟩, prog_14_method_146_code, (some .int), [], 1, 2837, 220, 2836, 148, 1),
  (⟨"SyntaxspanModel", "copyFile", "([I[III)V"⟩, prog_14_method_147_code, none, [], 0, 2840, 220, 2839, 0, 4),
  (⟨"SyntaxspanModel", "save", "(I)I"⟩, prog_14_method_148_code, (some .int), [], 1, 2833, 220, 2831, 2832, 1),
  (⟨"SyntaxspanModel", "back", "(I)I"⟩, prog_14_method_149_code, (some .int), [], 1, 2844, 220, 2842, 2843, 1),
  (⟨"SyntaxspanModel", "isChar", "(III)Z"⟩, prog_14_method_150_code, (some .boolean), [], 1, 2852, 220, 2851, 149, 3),
  (⟨"SyntaxspanModel", "charAt", "(III)C"⟩, prog_14_method_151_code, (some .char), [], 1, 2848, 220, 2846, 2847, 3),
  (⟨"SyntaxspanModel", "length", "(II)I"⟩, prog_14_method_152_code, (some .int), [], 1, 2856, 220, 2854, 2855, 2),
  (⟨"SyntaxspanModel", "relexed", "()I"⟩, prog_14_method_153_code, (some .int), [], 1, 2860, 220, 2858, 2859, 0),
  (⟨"SyntaxspanModel", "looksAt", "(I)Z"⟩, prog_14_method_154_code, (some .boolean), [], 1, 2868, 220, 2867, 150, 1),
  (⟨"SyntaxspanModel", "hasToken", "(IIZ)Z"⟩, prog_14_method_155_code, (some .boolean), [], 1, 2876, 220, 2875, 151, 3),
  (⟨"SyntaxspanModel", "tokens", "(I)I"⟩, prog_14_method_156_code, (some .int), [], 1, 2864, 220, 2862, 2863, 1),
  (⟨"SyntaxspanModel", "token", "(II)I"⟩, prog_14_method_157_code, (some .int), [], 1, 2872, 220, 2870, 2871, 2),
  (⟨"SyntaxspanModel", "tokenAnew", "(II)I"⟩, prog_14_method_158_code, (some .int), [], 1, 2880, 220, 2878, 2879, 2),
  (⟨"SyntaxspanModel", "colour", "(III)I"⟩, prog_14_method_159_code, (some .int), [], 1, 2885, 220, 2883, 2884, 3)]
def m_mds9 : List MD := [(⟨"SyntaxspanModel", "partner", "(II)I"⟩, prog_14_method_160_code, (some .int), [], 1, 2901, 220, 2899, 2900, 2),
  (⟨"SyntaxspanModel", "fold", "(II)I"⟩, prog_14_method_161_code, (some .int), [], 1, 2909, 220, 2907, 2908, 2),
  (⟨"SyntaxspanModel", "errors", "(I)I"⟩, prog_14_method_162_code, (some .int), [], 1, 2913, 220, 2911, 2912, 1),
  (⟨"SyntaxspanModel", "hasError", "(II)Z"⟩, prog_14_method_163_code, (some .boolean), [], 1, 2921, 220, 2920, 156, 2),
  (⟨"SyntaxspanModel", "errorAt", "(II)I"⟩, prog_14_method_164_code, (some .int), [], 1, 2917, 220, 2915, 2916, 2),
  (⟨"SyntaxspanModel", "repair", "(II)I"⟩, prog_14_method_165_code, (some .int), [], 1, 2925, 220, 2923, 2924, 2),
  (⟨"SyntaxspanModel", "tree", "(I)J"⟩, prog_14_method_166_code, (some .long), [], 1, 2956, 220, 2954, 2955, 1),
  (⟨"SyntaxspanModel", "may", "(II)I"⟩, prog_14_method_167_code, (some .int), [], 1, 2978, 220, 2976, 2977, 2),
  (⟨"SyntaxspanModel", "functions", "(I)I"⟩, prog_14_method_168_code, (some .int), [], 1, 2986, 220, 2984, 2985, 1),
  (⟨"SyntaxspanModel", "functionAt", "(II)I"⟩, prog_14_method_169_code, (some .int), [], 1, 2990, 220, 2988, 2989, 2),
  (⟨"SyntaxspanModel", "binding", "(II)I"⟩, prog_14_method_170_code, (some .int), [], 1, 2994, 220, 2992, 2993, 2),
  (⟨"SyntaxspanModel", "bindingAnew", "(II)I"⟩, prog_14_method_171_code, (some .int), [], 1, 2998, 220, 2996, 2997, 2),
  (⟨"SyntaxspanModel", "typeOf", "(II)I"⟩, prog_14_method_172_code, (some .int), [], 1, 3003, 220, 3001, 3002, 2),
  (⟨"SyntaxspanModel", "typeErrors", "()I"⟩, prog_14_method_173_code, (some .int), [], 1, 3042, 220, 3040, 3041, 0),
  (⟨"SyntaxspanModel", "typeErrorAt", "(I)I"⟩, prog_14_method_174_code, (some .int), [], 1, 3046, 220, 3044, 3045, 1),
  (⟨"SyntaxspanModel", "spell", "(C)I"⟩, prog_14_method_175_code, (some .int), [], 1, 3050, 220, 3048, 3049, 1),
  (⟨"SyntaxspanModel", "clearName", "()I"⟩, prog_14_method_176_code, (some .int), [], 1, 3054, 220, 3052, 3053, 0),
  (⟨"SyntaxspanModel", "completions", "(II)I"⟩, prog_14_method_177_code, (some .int), [], 1, 3058, 220, 3056, 3057, 2),
  (⟨"SyntaxspanModel", "completionAt", "(III)I"⟩, prog_14_method_178_code, (some .int), [], 1, 3082, 220, 3080, 3081, 3),
  (⟨"SyntaxspanModel", "plan", "(IIII)I"⟩, prog_14_method_179_code, (some .int), [], 1, 3090, 220, 3089, 181, 4),
  (⟨"SyntaxspanModel", "planRename", "(II)I"⟩, prog_14_method_180_code, (some .int), [], 1, 3086, 220, 3084, 3085, 2),
  (⟨"SyntaxspanModel", "planInline", "(II)I"⟩, prog_14_method_181_code, (some .int), [], 1, 3094, 220, 3092, 3093, 2),
  (⟨"SyntaxspanModel", "planMove", "(III)I"⟩, prog_14_method_182_code, (some .int), [], 1, 3098, 220, 3096, 3097, 3),
  (⟨"SyntaxspanModel", "clearPlan", "()I"⟩, prog_14_method_183_code, (some .int), [], 1, 3102, 220, 3100, 3101, 0),
  (⟨"SyntaxspanModel", "reason", "()I"⟩, prog_14_method_184_code, (some .int), [], 1, 3106, 220, 3104, 3105, 0),
  (⟨"SyntaxspanModel", "takeBackAll", "()V"⟩, prog_14_method_185_code, none, [], 1, 3212, 220, 3211, 206, 0),
  (⟨"SyntaxspanModel", "carryOut", "()I"⟩, prog_14_method_186_code, (some .int), [], 1, 3216, 220, 3214, 3215, 0),
  (⟨"SyntaxspanLaw", "insert", "(LSyntaxspan;IIIC[J)I"⟩, method_3_code, (some .int), [(0, 14, 17, 13), (0, 14, 21, 15), (0, 14, 25, 17)], 0, 1557, 207, 1556, 0, 6),
  (⟨"SyntaxspanLaw", "erase", "(LSyntaxspan;III[J)I"⟩, method_4_code, (some .int), [(0, 12, 15, 13)], 0, 1629, 207, 1628, 0, 5),
  (⟨"SyntaxspanLaw", "paste", "(LSyntaxspan;III[J)I"⟩, method_5_code, (some .int), [(0, 12, 15, 13), (0, 12, 19, 15), (0, 12, 23, 17)], 0, 1644, 207, 1643, 0, 5),
  (⟨"SyntaxspanLaw", "clear", "(LSyntaxspan;II[J)I"⟩, method_6_code, (some .int), [(0, 10, 13, 13)], 0, 1678, 207, 1677, 0, 4),
  (⟨"SyntaxspanLaw", "save", "(LSyntaxspan;I[J)I"⟩, method_7_code, (some .int), [(0, 9, 12, 13)], 0, 1686, 207, 1685, 0, 3),
  (⟨"SyntaxspanLaw", "back", "(LSyntaxspan;I[J)I"⟩, method_8_code, (some .int), [(0, 9, 12, 13)], 0, 1705, 207, 1704, 0, 3),
  (⟨"SyntaxspanLaw", "charAt", "(LSyntaxspan;III[J)I"⟩, method_9_code, (some .int), [(0, 12, 15, 13)], 0, 1712, 207, 1711, 0, 5),
  (⟨"SyntaxspanLaw", "length", "(LSyntaxspan;II[J)I"⟩, method_10_code, (some .int), [(0, 10, 13, 13)], 0, 1720, 207, 1719, 0, 4),
  (⟨"SyntaxspanLaw", "tokens", "(LSyntaxspan;I[J)I"⟩, method_11_code, (some .int), [(0, 9, 12, 13)], 0, 1727, 207, 1726, 0, 3),
  (⟨"SyntaxspanLaw", "token", "(LSyntaxspan;II[J)I"⟩, method_12_code, (some .int), [(0, 10, 13, 13)], 0, 1734, 207, 1733, 0, 4),
  (⟨"SyntaxspanLaw", "tokenAnew", "(LSyntaxspan;II[J)I"⟩, method_13_code, (some .int), [(0, 10, 13, 13)], 0, 1749, 207, 1748, 0, 4),
  (⟨"SyntaxspanLaw", "colour", "(LSyntaxspan;III[J)I"⟩, method_14_code, (some .int), [(0, 12, 15, 13)], 0, 1761, 207, 1760, 0, 5),
  (⟨"SyntaxspanLaw", "partner", "(LSyntaxspan;II[J)I"⟩, method_15_code, (some .int), [(0, 10, 13, 13)], 0, 1774, 207, 1773, 0, 4)]
def m_mds10 : List MD := [(⟨"SyntaxspanLaw", "fold", "(LSyntaxspan;II[J)I"⟩, method_16_code, (some .int), [(0, 10, 13, 13)], 0, 1781, 207, 1780, 0, 4),
  (⟨"SyntaxspanLaw", "errors", "(LSyntaxspan;I[J)I"⟩, method_17_code, (some .int), [(0, 9, 12, 13)], 0, 1793, 207, 1792, 0, 3),
  (⟨"SyntaxspanLaw", "errorAt", "(LSyntaxspan;II[J)I"⟩, method_18_code, (some .int), [(0, 10, 13, 13)], 0, 1800, 207, 1799, 0, 4),
  (⟨"SyntaxspanLaw", "repair", "(LSyntaxspan;II[J)I"⟩, method_19_code, (some .int), [(0, 10, 13, 13)], 0, 1811, 207, 1810, 0, 4),
  (⟨"SyntaxspanLaw", "tree", "(LSyntaxspan;I[J)I"⟩, method_20_code, (some .int), [(0, 8, 11, 13)], 0, 1843, 207, 1842, 0, 3),
  (⟨"SyntaxspanLaw", "may", "(LSyntaxspan;II[J)I"⟩, method_21_code, (some .int), [(0, 10, 13, 13)], 0, 1877, 207, 1876, 0, 4),
  (⟨"SyntaxspanLaw", "functions", "(LSyntaxspan;I[J)I"⟩, method_22_code, (some .int), [(0, 9, 12, 13)], 0, 1904, 207, 1903, 0, 3),
  (⟨"SyntaxspanLaw", "functionAt", "(LSyntaxspan;II[J)I"⟩, method_23_code, (some .int), [(0, 10, 13, 13)], 0, 1911, 207, 1910, 0, 4),
  (⟨"SyntaxspanLaw", "binding", "(LSyntaxspan;II[J)I"⟩, method_24_code, (some .int), [(0, 10, 13, 13)], 0, 1922, 207, 1921, 0, 4),
  (⟨"SyntaxspanLaw", "bindingAnew", "(LSyntaxspan;II[J)I"⟩, method_25_code, (some .int), [(0, 10, 13, 13)], 0, 1932, 207, 1931, 0, 4),
  (⟨"SyntaxspanLaw", "typeOf", "(LSyntaxspan;II[J)I"⟩, method_26_code, (some .int), [(0, 10, 13, 13)], 0, 1939, 207, 1938, 0, 4),
  (⟨"SyntaxspanLaw", "typeErrorAt", "(LSyntaxspan;I[J)I"⟩, method_27_code, (some .int), [(0, 9, 12, 13)], 0, 1950, 207, 1949, 0, 3),
  (⟨"SyntaxspanLaw", "spell", "(LSyntaxspan;C[J)I"⟩, method_28_code, (some .int), [(0, 9, 12, 15), (0, 9, 15, 17)], 0, 1957, 207, 1956, 0, 3),
  (⟨"SyntaxspanLaw", "completions", "(LSyntaxspan;II[J)I"⟩, method_29_code, (some .int), [(0, 10, 13, 13)], 0, 1964, 207, 1963, 0, 4),
  (⟨"SyntaxspanLaw", "completionAt", "(LSyntaxspan;III[J)I"⟩, method_30_code, (some .int), [(0, 12, 15, 13)], 0, 2007, 207, 2006, 0, 5),
  (⟨"SyntaxspanLaw", "planRename", "(LSyntaxspan;II[J)I"⟩, method_31_code, (some .int), [(0, 10, 13, 13), (0, 10, 17, 17)], 0, 2014, 207, 2013, 0, 4),
  (⟨"SyntaxspanLaw", "planInline", "(LSyntaxspan;II[J)I"⟩, method_32_code, (some .int), [(0, 10, 13, 13), (0, 10, 17, 17)], 0, 2033, 207, 2032, 0, 4),
  (⟨"SyntaxspanLaw", "planMove", "(LSyntaxspan;III[J)I"⟩, method_33_code, (some .int), [(0, 12, 15, 13), (0, 12, 19, 15), (0, 12, 23, 17)], 0, 2044, 207, 2043, 0, 5),
  (⟨"SyntaxspanLaw", "carryOut", "(LSyntaxspan;[J)I"⟩, method_34_code, (some .int), [(0, 8, 11, 17)], 0, 2055, 207, 2054, 0, 2),
  (⟨"SyntaxspanLaw", "run", "(LSyntaxspan;IIII[J)I"⟩, method_35_code, (some .int), [(0, 13, 16, 13)], 0, 2062, 207, 2061, 0, 6),
  (⟨"SyntaxspanLaw", "law", "([I)Z"⟩, code, (some .boolean), [], 9, 0, 0, 0, 0, 1),
  (⟨"java/lang/String", "length", "()I"⟩, prog_27_method_54_code, (some .int), [], 1, 784, 228, 782, 783, 0),
  (⟨"java/lang/String", "charAt", "(I)C"⟩, prog_27_method_56_code, (some .char), [], 1, 794, 228, 792, 793, 1),
  (⟨"java/lang/String", "indexOf", "(I)I"⟩, prog_27_method_79_code, (some .int), [], 1, 833, 228, 831, 832, 1),
  (⟨"java/lang/String", "indexOf", "(II)I"⟩, prog_27_method_80_code, (some .int), [], 1, 837, 228, 835, 836, 2),
  (⟨"java/lang/String", "coder", "()B"⟩, prog_27_method_152_code, (some .byte), [], 1, 788, 228, 786, 787, 0),
  (⟨"java/lang/String", "isLatin1", "()Z"⟩, prog_27_method_154_code, (some .boolean), [], 1, 798, 228, 796, 797, 0),
  (⟨"java/lang/String", "checkIndex", "(II)V"⟩, prog_27_method_155_code, none, [], 0, 804, 228, 803, 0, 2),
  (⟨"java/lang/StringLatin1", "charAt", "([BI)C"⟩, prog_29_method_2_code, (some .char), [], 0, 801, 229, 800, 0, 2),
  (⟨"java/lang/StringLatin1", "indexOf", "([BIII)I"⟩, prog_29_method_22_code, (some .int), [], 0, 841, 229, 840, 0, 4),
  (⟨"java/lang/StringLatin1", "indexOfChar", "([BIII)I"⟩, prog_29_method_23_code, (some .int), [], 0, 853, 229, 852, 0, 4),
  (⟨"java/lang/StringLatin1", "canEncode", "(I)Z"⟩, prog_29_method_4_code, (some .boolean), [], 0, 844, 229, 843, 0, 1),
  (⟨"jdk/internal/util/Preconditions", "checkIndex", "(IILjava/util/function/BiFunction;)I"⟩, prog_35_method_11_code, (some .int), [], 0, 809, 230, 808, 0, 3),
  (⟨"java/util/Arrays", "fill", "([II)V"⟩, prog_33_method_103_code, none, [], 0, 1298, 234, 1297, 0, 2),
  (⟨"java/util/Arrays", "fill", "([IIII)V"⟩, prog_33_method_104_code, none, [], 0, 896, 234, 895, 0, 4),
  (⟨"java/util/Arrays", "fill", "([JIIJ)V"⟩, prog_33_method_102_code, none, [], 0, 2082, 234, 2081, 0, 4),
  (⟨"java/util/Arrays", "rangeCheck", "(III)V"⟩, prog_33_method_30_code, none, [], 0, 899, 234, 898, 0, 3),
  (⟨"java/lang/Math", "max", "(II)I"⟩, prog_24_method_65_code, (some .int), [], 0, 847, 232, 846, 0, 2),
  (⟨"java/lang/Math", "min", "(II)I"⟩, prog_24_method_69_code, (some .int), [], 0, 850, 232, 849, 0, 2)]
def m_mds : List MD := m_mds0 ++ (m_mds1 ++ (m_mds2 ++ (m_mds3 ++ (m_mds4 ++ (m_mds5 ++ (m_mds6 ++ (m_mds7 ++ (m_mds8 ++ (m_mds9 ++ (m_mds10))))))))))
def m_md (M : Nat) : MD := m_mds.getD M (⟨"", "", ""⟩, ⟨#[]⟩, none, [], 99, 0, 0, 0, 0, 0)
def m_y (M : Nat) : MethodName := (m_md M).1
def m_cc (M : Nat) : ByteArray := (m_md M).2.1
def m_ret (M : Nat) : Option FieldType := (m_md M).2.2.1
def m_raw (M : Nat) : List (Nat × Nat × Nat × Nat) := (m_md M).2.2.2.1
def m_knd (M : Nat) : Nat := (m_md M).2.2.2.2.1
def m_par (M : Nat) : Nat := (m_md M).2.2.2.2.2.2.2.2.2
def m_w0 (M : Nat) : Cond := match m_raw M with
  | [] => .code (m_y M) (m_cc M) (m_mls.getD M 0) (m_ret M)
  | hh => .codeWith (m_y M) (m_cc M) (m_mls.getD M 0) (m_ret M) hh
def m_has (w : Cond) (j : Nat) : Bool := decide (lw_tbl[j]? = some w) && goodWord w
def m_hasN (w : Cond) (j : Nat) : Bool := decide (lw_tbl[j]? = some w) && m_nest w
theorem m_has_ok {w : Cond} {j : Nat} (h : m_has w j = true) : w ∈ lw_tbl ∧ goodWord w = true := by
  unfold m_has at h
  rw [Bool.and_eq_true, decide_eq_true_iff] at h
  exact ⟨List.mem_of_getElem? h.1, h.2⟩
theorem m_hasN_ok {w : Cond} {j : Nat} (h : m_hasN w j = true) : w ∈ lw_tbl ∧ m_nest w = true := by
  unfold m_hasN at h
  rw [Bool.and_eq_true, decide_eq_true_iff] at h
  exact ⟨List.mem_of_getElem? h.1, h.2⟩
def m_rok (M : Nat) : Bool := match m_cl[m_own M]? with
  | some r => decide (r.1 = (m_y M).cls)
  | none => m_own M == 200 && decide ((m_y M).cls = "java/lang/String")
def m_eqB (a b : ByteArray) : Bool := a.data.toList == b.data.toList
theorem m_eqB_ok {a b : ByteArray} (h : m_eqB a b = true) : a = b := by
  obtain ⟨a⟩ := a
  obtain ⟨b⟩ := b
  have h1 : a.toList = b.toList := eq_of_beq h
  rw [Array.toList_inj.mp h1]
def m_eqw (a b : Cond) : Bool := match a, b with
  | .code y c m r, .code y2 c2 m2 r2 => decide (y = y2) && (m_eqB c c2 && (decide (m = m2) && decide (r = r2)))
  | .codeWith y c m r hh, .codeWith y2 c2 m2 r2 hh2 => decide (y = y2) && (m_eqB c c2 && (decide (m = m2) && (decide (r = r2) && decide (hh = hh2))))
  | _, _ => false
theorem m_eqw_ok {a b : Cond} (h : m_eqw a b = true) : a = b := by
  unfold m_eqw at h
  split at h
  · simp only [Bool.and_eq_true, decide_eq_true_iff] at h
    obtain ⟨rfl, h2, rfl, rfl⟩ := h
    rw [m_eqB_ok h2]
  · simp only [Bool.and_eq_true, decide_eq_true_iff] at h
    obtain ⟨rfl, h2, rfl, rfl, rfl⟩ := h
    rw [m_eqB_ok h2]
  · cases h
def m_hasC (w : Cond) (j : Nat) : Bool := (match lw_tbl[j]? with
  | some v => m_eqw v w
  | none => false) && goodWord w
theorem m_hasC_ok {w : Cond} {j : Nat} (h : m_hasC w j = true) : w ∈ lw_tbl ∧ goodWord w = true := by
  unfold m_hasC at h
  rw [Bool.and_eq_true] at h
  refine ⟨?_, h.2⟩
  have h1 := h.1
  split at h1
  · next v hv =>
    rw [← m_eqw_ok h1]
    exact List.mem_of_getElem? hv
  · cases h1
def m_mok (M : Nat) : Bool :=
  (m_knd M == 0 || m_rok M) && (m_hasC (m_w0 M) (m_md M).2.2.2.2.2.1 && (m_has (.initialized (m_y M).cls) (m_md M).2.2.2.2.2.2.1 && ((plainFor (m_y M) && ((plainName (m_y M).cls || decide (421 ≤ M)) && (decide (387 ≤ M) || (m_raw M).isEmpty))) && (decide ((m_y M).cls ≠ "java/lang/invoke/MethodHandle") && (decide ((m_y M).cls ≠ "java/lang/invoke/VarHandle") &&
  (decide ((parseMethodDescriptor (m_y M).desc).map (fun d => d.parameters.length) = some (m_par M)) && (decide (m_mls.getD M 0 ≤ 80) &&
  (match m_knd M with
    | 0 => m_has (.static (m_y M)) (m_md M).2.2.2.2.2.2.2.1
    | 1 => m_has (.instanceMethod (m_y M)) (m_md M).2.2.2.2.2.2.2.1 && m_has (.selects (m_y M).cls (m_y M) (m_y M)) (m_md M).2.2.2.2.2.2.2.2.1
    | 2 => m_has (.instanceMethod (m_y M)) (m_md M).2.2.2.2.2.2.2.1 && (decide ((m_y M).name = "<init>") && decide (m_ret M = none))
    | _ => false))))))))
def m_ln : Instr → Nat
  | .bipush _ => 2
  | .iload _ => 2
  | .lload _ => 2
  | .aload _ => 2
  | .istore _ => 2
  | .lstore _ => 2
  | .astore _ => 2
  | .ldc _ => 2
  | .newarray _ => 2
  | .sipush _ => 3
  | .ldc_w _ => 3
  | .ldc2_w _ => 3
  | .iinc _ _ => 3
  | .ifCond _ _ => 3
  | .if_icmp _ _ => 3
  | .goto _ => 3
  | .getfield _ => 3
  | .putfield _ => 3
  | .getstatic _ => 3
  | .new _ => 3
  | .anewarray _ => 3
  | .invokespecial _ => 3
  | .invokevirtual _ => 3
  | .invokestatic _ => 3
  | _ => 1
def m_isT : Instr → Bool
  | .tableswitch .. => true
  | _ => false
def m_dcd (cc : ByteArray) (pc : Nat) (i : Instr) : Bool := match decode cc pc with
  | .ok (j, n) => decide (j = i) && (n == m_ln i || m_isT i)
  | _ => false
def m_rng32 (v : Int) : Bool := decide (-2147483648 ≤ v) && decide (v < 2147483648)
def m_fw (own : String) (idx : Nat) (r : vw_C) (q : LK) : Bool :=
  if q.2.2.2 = 0 then m_has (.fieldLink own idx (r.2.1 q.2.1).1 (r.2.1 q.2.1).2.1 (r.2.1 q.2.1).2.2.1) q.2.2.1 else m_hasN (.fieldLinkNest own idx (r.2.1 q.2.1).1 (r.2.1 q.2.1).2.1 (r.2.1 q.2.1).2.2.1 "Syntaxspan") q.2.2.1
def m_ics : List Nat := [75, 78, 81]
def m_spc (own nm : String) (ret : Option FieldType) (cc : ByteArray) (pc : Nat) (i : Instr) (q : LK) : Bool :=
  match i with
  | .iconst v => m_rng32 v
  | .bipush v => decide (-128 ≤ v) && decide (v < 128)
  | .sipush v => decide (-32768 ≤ v) && decide (v < 32768)
  | .iinc _ v => m_rng32 v
  | .ifCond _ off => decide (0 ≤ (pc : Int) + off)
  | .if_icmp _ off => decide (0 ≤ (pc : Int) + off)
  | .goto off => decide (0 ≤ (pc : Int) + off)
  | .getfield idx => (match m_cl[q.1]? with
    | some r => decide (q.2.1 < r.2.2) && m_fw own idx r q
    | none => (q.1 == 100 && ((q.2.1 == 0 && m_has (.fieldLink own idx "java/lang/String" "value" "[B") q.2.2.1) || (q.2.1 == 1 && m_has (.fieldLink own idx "java/lang/String" "coder" "B") q.2.2.1))) || decide (150 ≤ q.1))
  | .putfield idx => (match m_cl[q.1]? with
    | some r => decide (q.2.1 < r.2.2) && (m_fw own idx r q && (!(r.2.1 q.2.1).2.2.2 || (q.2.2.2 == 0 && (decide (nm = "<init>") && decide ((r.2.1 q.2.1).1 = own)))))
    | none => decide (150 ≤ q.1))
  | .getstatic idx => (q.1 == 0 && (q.2.1 == 0 && m_has (.fieldLink own idx "Syntaxspan$Repair" "CLASSES" "[I") q.2.2.1)) || ((q.1 == 0 && (q.2.1 == 1 && m_has (.fieldLink own idx "Syntaxspan$Repair" "RULES" "[I") q.2.2.1)) || ((q.1 == 1 && m_has (.fieldLink own idx "java/lang/String" "COMPACT_STRINGS" "Z") q.2.2.1) || ((q.1 == 2 && m_has (.fieldLink own idx "jdk/internal/util/Preconditions" "SIOOBE_FORMATTER" "Ljava/util/function/BiFunction;") q.2.2.1) || decide (3 ≤ q.1))))
  | .ldc idx => (q.1 == 1 && (decide (q.2.1 < 2147483648) && m_has (.constant own idx (Int32.ofInt (q.2.1 : Int))) q.2.2.1)) || ((q.1 == 2 && (decide (q.2.1 < 39) && (match m_strs[q.2.1]? with
    | some t => decide (t.1 = own) && t.2.1 == idx
    | none => false))) || (decide (3 ≤ q.1) || q.1 == 0))
  | .ldc_w idx => (q.1 == 1 && (decide (q.2.1 < 2147483648) && m_has (.constant own idx (Int32.ofInt (q.2.1 : Int))) q.2.2.1)) || ((q.1 == 2 && (decide (q.2.1 < 39) && (match m_strs[q.2.1]? with
    | some t => decide (t.1 = own) && t.2.1 == idx
    | none => false))) || (decide (3 ≤ q.1) || q.1 == 0))
  | .ldc2_w idx => (q.1 == 1 && (decide (q.2.1 < 2147483648) && m_has (.constantLong own idx (Int64.ofInt (q.2.1 : Int))) q.2.2.1)) || !(q.1 == 1)
  | .anewarray idx => (match m_cl[q.1]? with
    | some r => m_has (.classLink own idx r.1) q.2.2.1 && m_hasN (.arrayOver (.object r.1)) q.2.2.2
    | none => decide (40 ≤ q.1))
  | .new idx => (match m_cl[q.1]? with
    | some r => r.2.2 == q.2.1 && (m_has (.classLink own idx r.1) q.2.2.1 && m_has (.instantiable r.1 r.2.2) q.2.2.2)
    | none => (decide (50 ≤ q.1) && decide (q.1 < 200)) || (decide (200 ≤ q.1) && (decide (q.1 < 203) && (decide (own = "Syntaxspan") && (m_has (.classLink own idx (m_exn (q.1 - 200))) q.2.2.1 &&
      (m_dcd cc (pc + 3) .dup && (m_dcd cc (pc + 4) (.invokespecial (m_ics.getD (q.1 - 200) 0)) && m_dcd cc (pc + 7) .athrow)))))))
  | .invokespecial idx => (q.2.2.2 == 9 && m_has (.methodLink own idx Lib.objectInit) q.2.2.1) || ((q.2.2.2 == 4 && (m_has (.methodLink own idx (m_y q.1)) q.2.2.1 && (decide (q.1 < 439 ∧ q.1 ≠ 420) && (m_knd q.1 == 2 && q.2.1 == m_par q.1 + 1)))) || ((q.2.2.2 == 5 && (m_hasN (.methodLinkNest own idx (m_y q.1) "Syntaxspan") q.2.2.1 && (decide (q.1 < 439 ∧ q.1 ≠ 420) && (m_knd q.1 == 2 && q.2.1 == m_par q.1 + 1)))) || (q.2.2.2 == 8)))
  | .invokevirtual idx => (q.2.2.2 == 2 && (m_has (.methodLink own idx (m_y q.1)) q.2.2.1 && (decide (q.1 < 439 ∧ q.1 ≠ 420) && (m_knd q.1 == 1 && q.2.1 == m_par q.1 + 1)))) || ((q.2.2.2 == 3 && (m_hasN (.methodLinkNest own idx (m_y q.1) "Syntaxspan") q.2.2.1 && (decide (q.1 < 439 ∧ q.1 ≠ 420) && (m_knd q.1 == 1 && q.2.1 == m_par q.1 + 1)))) || (q.2.2.2 == 8))
  | .invokestatic idx => (q.2.2.2 == 6 && m_has (.methodLink own idx arraycopyName) q.2.2.1) || ((q.2.2.2 == 0 && (m_has (.methodLink own idx (m_y q.1)) q.2.2.1 && (decide (q.1 < 439 ∧ q.1 ≠ 420) && (m_knd q.1 == 0 && (q.2.1 == m_par q.1 && (m_raw q.1).isEmpty))))) || ((q.2.2.2 == 1 && (m_hasN (.methodLinkNest own idx (m_y q.1) "Syntaxspan") q.2.2.1 && (decide (q.1 < 439 ∧ q.1 ≠ 420) && (m_knd q.1 == 0 && (q.2.1 == m_par q.1 && (m_raw q.1).isEmpty))))) || ((q.2.2.2 == 7 && (m_has (.methodLink own idx (m_y q.1)) q.2.2.1 && (decide (q.1 < 439 ∧ q.1 ≠ 420) && (m_knd q.1 == 0 && (q.2.1 == m_par q.1 && !(m_raw q.1).isEmpty))))) || q.2.2.2 == 8)))
  | .ireturn => (match ret with
    | some .int => q.1 == 0
    | some .boolean => q.1 == 2
    | some .char => q.1 == 3
    | some .byte => q.1 == 5
    | _ => decide (6 ≤ q.1))
  | .lreturn => decide (ret = some .long)
  | .areturn => (match ret with
    | some (.object _) => true
    | some (.array _) => true
    | _ => false)
  | .return_ => decide (ret = none)
  | _ => true
def m_ick (M pc : Nat) (i : Instr) (q : LK) : Bool := m_dcd (m_cc M) pc i && m_spc (m_y M).cls (m_y M).name (m_ret M) (m_cc M) pc i q
def m_tck (M : Nat) (tb : List (Option (Instr × LK))) : Bool := tb.zipIdx.all fun x => match x.1 with
  | some (i, q) => m_ick M x.2 i q
  | none => true
