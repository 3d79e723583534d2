/-! THE PROGRAM AGAINST THE TABLES -/
noncomputable def am_mt0 : List am_M := [(⟨"OldFences$County", "<init>", "()V"⟩, prog_2_method_1_code, 1, none, 0, []),
  (⟨"OldFences$County", "copyFrom", "(LOldFences$County;)V"⟩, prog_2_method_2_code, 3, none, 1, []),
  (⟨"OldFences$County", "put", "(II)V"⟩, prog_2_method_3_code, 3, none, 2, []),
  (⟨"OldFences$County", "isOpen", "(II)Z"⟩, prog_2_method_4_code, 3, some Jvm.ClassFile.FieldType.boolean, 2, []),
  (⟨"OldFences$County", "toll", "(I)I"⟩, prog_2_method_5_code, 2, some Jvm.ClassFile.FieldType.int, 1, []),
  (⟨"OldFences$County", "ladder", "(I)I"⟩, prog_2_method_6_code, 2, some Jvm.ClassFile.FieldType.int, 1, []),
  (⟨"OldFences$County", "isTop", "(II)Z"⟩, prog_2_method_7_code, 3, some Jvm.ClassFile.FieldType.boolean, 2, []),
  (⟨"OldFences$County", "growth", "(I)I"⟩, prog_2_method_8_code, 2, some Jvm.ClassFile.FieldType.int, 1, []),
  (⟨"OldFences$County", "soreness", "(I)I"⟩, prog_2_method_9_code, 2, some Jvm.ClassFile.FieldType.int, 1, []),
  (⟨"OldFences$County", "passYears", "(I)I"⟩, prog_2_method_10_code, 5, some Jvm.ClassFile.FieldType.int, 1, []),
  (⟨"OldFences$County", "grow", "(I)V"⟩, prog_2_method_11_code, 2, none, 1, []),
  (⟨"OldFences$County", "fret", "(I)V"⟩, prog_2_method_12_code, 5, none, 1, []),
  (⟨"OldFences$County", "quarrelOf", "(I)I"⟩, prog_2_method_13_code, 3, some Jvm.ClassFile.FieldType.int, 1, []),
  (⟨"OldFences$County", "draw", "()I"⟩, prog_2_method_14_code, 1, some Jvm.ClassFile.FieldType.int, 0, []),
  (⟨"OldFences$County", "endYear", "()V"⟩, prog_2_method_15_code, 1, none, 0, []),
  (⟨"OldFences$County", "tower", "(I)I"⟩, prog_2_method_16_code, 5, some Jvm.ClassFile.FieldType.int, 1, []),
  (⟨"OldFences$County", "fences", "()I"⟩, prog_2_method_17_code, 3, some Jvm.ClassFile.FieldType.int, 0, []),
  (⟨"OldFences$County", "gates", "()I"⟩, prog_2_method_18_code, 3, some Jvm.ClassFile.FieldType.int, 0, []),
  (⟨"OldFences$County", "strings", "()I"⟩, prog_2_method_19_code, 3, some Jvm.ClassFile.FieldType.int, 0, []),
  (⟨"OldFences$County", "highTogether", "()I"⟩, prog_2_method_20_code, 3, some Jvm.ClassFile.FieldType.int, 0, []),
  (⟨"OldFences$County", "soreTogether", "()I"⟩, prog_2_method_21_code, 3, some Jvm.ClassFile.FieldType.int, 0, []),
  (⟨"OldFences$CountyReader", "<init>", "(LOldFences$Tape;)V"⟩, prog_3_method_1_code, 2, none, 1, []),
  (⟨"OldFences$CountyReader", "reads", "(LOldFences$County;)Z"⟩, prog_3_method_2_code, 3, some Jvm.ClassFile.FieldType.boolean, 1, []),
  (⟨"OldFences$CountyReader", "readsLine", "(LOldFences$County;)Z"⟩, prog_3_method_3_code, 2, some Jvm.ClassFile.FieldType.boolean, 1, []),
  (⟨"OldFences$CountyReader", "readsFence", "(LOldFences$County;)Z"⟩, prog_3_method_4_code, 3, some Jvm.ClassFile.FieldType.boolean, 1, []),
  (⟨"OldFences$CountyReader", "readsRow", "(LOldFences$County;)Z"⟩, prog_3_method_5_code, 4, some Jvm.ClassFile.FieldType.boolean, 1, []),
  (⟨"OldFences$CountyReader", "readsFamily", "(LOldFences$County;)Z"⟩, prog_3_method_6_code, 3, some Jvm.ClassFile.FieldType.boolean, 1, []),
  (⟨"OldFences$Grid", "lessCell", "(I)I"⟩, prog_4_method_2_code, 1, some Jvm.ClassFile.FieldType.int, 1, []),
  (⟨"OldFences$Grid", "moreCell", "(I)I"⟩, prog_4_method_3_code, 1, some Jvm.ClassFile.FieldType.int, 1, []),
  (⟨"OldFences$Grid", "lessCorner", "(I)I"⟩, prog_4_method_4_code, 2, some Jvm.ClassFile.FieldType.int, 1, []),
  (⟨"OldFences$Grid", "moreCorner", "(I)I"⟩, prog_4_method_5_code, 1, some Jvm.ClassFile.FieldType.int, 1, []),
  (⟨"OldFences$Grid", "onSide", "(II)I"⟩, prog_4_method_6_code, 4, some Jvm.ClassFile.FieldType.int, 2, []),
  (⟨"OldFences$Grid", "across", "(II)I"⟩, prog_4_method_7_code, 2, some Jvm.ClassFile.FieldType.int, 2, []),
  (⟨"OldFences$Grid", "borderOf", "(II)I"⟩, prog_4_method_8_code, 5, some Jvm.ClassFile.FieldType.int, 2, []),
  (⟨"OldFences$Grid", "towards", "(II)I"⟩, prog_4_method_9_code, 2, some Jvm.ClassFile.FieldType.int, 2, []),
  (⟨"OldFences$Grid", "apart", "(II)I"⟩, prog_4_method_10_code, 2, some Jvm.ClassFile.FieldType.int, 2, []),
  (⟨"OldFences$Law", "<init>", "(I[I[I[I[I)V"⟩, prog_5_method_1_code, 6, none, 5, []),
  (⟨"OldFences$Law", "total", "(ILOldFences$County;I)I"⟩, prog_5_method_2_code, 6, some Jvm.ClassFile.FieldType.int, 3, []),
  (⟨"OldFences$Law", "holds", "(ILOldFences$County;I)Z"⟩, prog_5_method_3_code, 8, some Jvm.ClassFile.FieldType.boolean, 3, []),
  (⟨"OldFences$Law", "ofTwo", "(III)I"⟩, prog_5_method_4_code, 3, some Jvm.ClassFile.FieldType.int, 3, []),
  (⟨"OldFences$Law", "fact", "(ILOldFences$County;II)I"⟩, prog_5_method_5_code, 4, some Jvm.ClassFile.FieldType.int, 4, []),
  (⟨"OldFences$LawReader", "<init>", "(LOldFences$Tape;)V"⟩, prog_6_method_1_code, 2, none, 1, []),
  (⟨"OldFences$LawReader", "made", "()LOldFences$Law;"⟩, prog_6_method_2_code, 1, some (Jvm.ClassFile.FieldType.object "OldFences$Law"), 0, []),
  (⟨"OldFences$LawReader", "reads", "()Z"⟩, prog_6_method_3_code, 2, some Jvm.ClassFile.FieldType.boolean, 0, []),
  (⟨"OldFences$LawReader", "readsLine", "(I)Z"⟩, prog_6_method_4_code, 2, some Jvm.ClassFile.FieldType.boolean, 1, []),
  (⟨"OldFences$LawReader", "readsCondition", "(I)Z"⟩, prog_6_method_5_code, 4, some Jvm.ClassFile.FieldType.boolean, 1, []),
  (⟨"OldFences$LawReader", "readsAtom", "(I)Z"⟩, prog_6_method_6_code, 3, some Jvm.ClassFile.FieldType.boolean, 1, []),
  (⟨"OldFences$LawReader", "readsComparison", "()Z"⟩, prog_6_method_7_code, 2, some Jvm.ClassFile.FieldType.boolean, 0, []),
  (⟨"OldFences$LawReader", "readsSum", "()Z"⟩, prog_6_method_8_code, 3, some Jvm.ClassFile.FieldType.boolean, 0, []),
  (⟨"OldFences$LawReader", "isPart", "(I)Z"⟩, prog_6_method_9_code, 1, some Jvm.ClassFile.FieldType.boolean, 1, [])]
def am_mx0 : List (Nat × Nat × Nat × Nat × Nat) := [(244, 135, 2, 243, 0), (673, 135, 1, 671, 672), (853, 135, 1, 851, 852), (603, 135, 1, 601, 602), (1313, 135, 1, 1311, 1312), (629, 135, 1, 627, 628), (562, 135, 1, 560, 561), (1081, 135, 1, 1079, 1080), (1100, 135, 1, 1098, 1099), (1174, 135, 1, 1172, 1173), (1178, 135, 1, 1176, 1177), (1185, 135, 1, 1184, 27), (1190, 135, 1, 1189, 28), (1194, 135, 1, 1193, 29), (1205, 135, 1, 1203, 1204), (1134, 135, 1, 1132, 1133), (528, 135, 1, 526, 527), (532, 135, 1, 530, 531), (536, 135, 1, 534, 535), (540, 135, 1, 538, 539), (544, 135, 1, 542, 543), (206, 133, 2, 205, 0), (702, 133, 1, 700, 701), (822, 133, 1, 821, 11), (830, 133, 1, 829, 12), (857, 133, 1, 856, 13), (861, 133, 1, 860, 14), (568, 147, 0, 567, 0), (571, 147, 0, 570, 0), (647, 147, 0, 646, 0), (651, 147, 0, 650, 0), (558, 147, 0, 557, 0), (565, 147, 0, 564, 0), (841, 147, 0, 840, 0), (555, 147, 0, 554, 0), (1145, 147, 0, 1144, 0), (1014, 154, 2, 1013, 0), (1085, 154, 1, 1083, 1084), (1089, 154, 1, 1088, 22), (1093, 154, 0, 1092, 0), (1096, 154, 0, 1095, 0), (216, 134, 2, 215, 0), (997, 134, 1, 995, 996), (953, 134, 1, 951, 952), (959, 134, 1, 958, 16), (966, 134, 1, 965, 17), (970, 134, 1, 969, 18), (986, 134, 1, 985, 20), (990, 134, 1, 989, 21), (993, 134, 0, 992, 0)]
noncomputable def am_mt1 : List am_M := [(⟨"OldFences$LawReader", "emit", "(I)V"⟩, prog_6_method_10_code, 2, none, 1, []),
  (⟨"OldFences$Log", "<init>", "()V"⟩, prog_7_method_1_code, 1, none, 0, []),
  (⟨"OldFences$Log", "copyFrom", "(LOldFences$Log;)V"⟩, prog_7_method_2_code, 2, none, 1, []),
  (⟨"OldFences$Log", "add", "(IIIII)V"⟩, prog_7_method_3_code, 7, none, 5, []),
  (⟨"OldFences$Log", "value", "(II)I"⟩, prog_7_method_4_code, 3, some Jvm.ClassFile.FieldType.int, 2, []),
  (⟨"OldFences$Log", "rowsOf", "(I)I"⟩, prog_7_method_5_code, 4, some Jvm.ClassFile.FieldType.int, 1, []),
  (⟨"OldFences$Log", "latestYear", "(I)I"⟩, prog_7_method_6_code, 3, some Jvm.ClassFile.FieldType.int, 1, []),
  (⟨"OldFences$Neighbours", "<init>", "(LOldFences$Pieces;LOldFences$Paths;)V"⟩, prog_8_method_1_code, 3, none, 2, []),
  (⟨"OldFences$Neighbours", "doMeet", "(LOldFences$County;II)Z"⟩, prog_8_method_2_code, 4, some Jvm.ClassFile.FieldType.boolean, 3, []),
  (⟨"OldFences$Neighbours", "comesHomeTo", "(LOldFences$County;II)Z"⟩, prog_8_method_3_code, 4, some Jvm.ClassFile.FieldType.boolean, 3, []),
  (⟨"OldFences$Neighbours", "middle", "(LOldFences$County;II)I"⟩, prog_8_method_4_code, 6, some Jvm.ClassFile.FieldType.int, 3, []),
  (⟨"OldFences$Neighbours", "doesSee", "(LOldFences$County;II)Z"⟩, prog_8_method_5_code, 8, some Jvm.ClassFile.FieldType.boolean, 3, []),
  (⟨"OldFences$Neighbours", "share", "(LOldFences$County;I)I"⟩, prog_8_method_6_code, 5, some Jvm.ClassFile.FieldType.int, 2, []),
  (⟨"OldFences$Neighbours", "nearest", "(LOldFences$County;I)I"⟩, prog_8_method_7_code, 4, some Jvm.ClassFile.FieldType.int, 2, []),
  (⟨"OldFences$Neighbours", "pairUp", "(LOldFences$County;)V"⟩, prog_8_method_8_code, 6, none, 1, []),
  (⟨"OldFences$Neighbours", "valuePairs", "(LOldFences$County;)V"⟩, prog_8_method_9_code, 4, none, 1, []),
  (⟨"OldFences$Neighbours", "bestWorth", "(II)I"⟩, prog_8_method_10_code, 7, some Jvm.ClassFile.FieldType.int, 2, []),
  (⟨"OldFences$Neighbours", "firstBestPartner", "(III)I"⟩, prog_8_method_11_code, 6, some Jvm.ClassFile.FieldType.int, 3, []),
  (⟨"OldFences$Neighbours", "lowestOf", "(I)I"⟩, prog_8_method_12_code, 2, some Jvm.ClassFile.FieldType.int, 1, []),
  (⟨"OldFences$Neighbours", "pairCount", "()I"⟩, prog_8_method_13_code, 3, some Jvm.ClassFile.FieldType.int, 0, []),
  (⟨"OldFences$Neighbours", "restingChoices", "(LOldFences$County;II)I"⟩, prog_8_method_14_code, 9, some Jvm.ClassFile.FieldType.int, 3, []),
  (⟨"OldFences$Neighbours", "payoff", "(LOldFences$County;III)I"⟩, prog_8_method_15_code, 4, some Jvm.ClassFile.FieldType.int, 4, []),
  (⟨"OldFences$Paths", "<init>", "()V"⟩, prog_9_method_1_code, 1, none, 0, []),
  (⟨"OldFences$Paths", "climbing", "(LOldFences$County;II)I"⟩, prog_9_method_2_code, 4, some Jvm.ClassFile.FieldType.int, 3, []),
  (⟨"OldFences$Paths", "fromHome", "(LOldFences$County;I[I)V"⟩, prog_9_method_3_code, 6, none, 3, []),
  (⟨"OldFences$Paths", "isNever", "(I)Z"⟩, prog_9_method_4_code, 2, some Jvm.ClassFile.FieldType.boolean, 1, []),
  (⟨"OldFences$Paths", "pulling", "(LOldFences$County;III)I"⟩, prog_9_method_5_code, 6, some Jvm.ClassFile.FieldType.int, 4, []),
  (⟨"OldFences$Paths", "laddersBetween", "(LOldFences$County;II)I"⟩, prog_9_method_6_code, 4, some Jvm.ClassFile.FieldType.int, 3, []),
  (⟨"OldFences$Paths", "walking", "(LOldFences$County;III)I"⟩, prog_9_method_7_code, 6, some Jvm.ClassFile.FieldType.int, 4, []),
  (⟨"OldFences$Paths", "laddersForAll", "(LOldFences$County;)I"⟩, prog_9_method_8_code, 6, some Jvm.ClassFile.FieldType.int, 1, []),
  (⟨"OldFences$Paths", "joinTrees", "([I[I[I)V"⟩, prog_9_method_9_code, 4, none, 3, []),
  (⟨"OldFences$Paths", "chargeLadders", "(LOldFences$County;)V"⟩, prog_9_method_10_code, 3, none, 1, []),
  (⟨"OldFences$Paths", "orNone", "(I)I"⟩, prog_9_method_11_code, 1, some Jvm.ClassFile.FieldType.int, 1, []),
  (⟨"OldFences$Paths", "spread", "([IIZ)V"⟩, prog_9_method_12_code, 4, none, 3, []),
  (⟨"OldFences$Paths", "settle", "([IZ)V"⟩, prog_9_method_13_code, 8, none, 2, []),
  (⟨"OldFences$Paths", "shutting", "(LOldFences$County;III)I"⟩, prog_9_method_14_code, 6, some Jvm.ClassFile.FieldType.int, 4, []),
  (⟨"OldFences$Paths", "findsWay", "(II)Z"⟩, prog_9_method_15_code, 9, some Jvm.ClassFile.FieldType.boolean, 2, []),
  (⟨"OldFences$Paths", "hasRoom", "(II)Z"⟩, prog_9_method_16_code, 3, some Jvm.ClassFile.FieldType.boolean, 2, []),
  (⟨"OldFences$Paths", "fillWay", "(II)V"⟩, prog_9_method_17_code, 6, none, 2, []),
  (⟨"OldFences$Paths", "wayOf", "(II)I"⟩, prog_9_method_18_code, 2, some Jvm.ClassFile.FieldType.int, 2, []),
  (⟨"OldFences$Pieces", "<init>", "()V"⟩, prog_10_method_1_code, 1, none, 0, []),
  (⟨"OldFences$Pieces", "ofCells", "(LOldFences$County;II)V"⟩, prog_10_method_2_code, 5, none, 3, []),
  (⟨"OldFences$Pieces", "ofTops", "(LOldFences$County;I)V"⟩, prog_10_method_3_code, 4, none, 2, []),
  (⟨"OldFences$Pieces", "start", "(I)V"⟩, prog_10_method_4_code, 3, none, 1, []),
  (⟨"OldFences$Pieces", "join", "(II)V"⟩, prog_10_method_5_code, 6, none, 2, []),
  (⟨"OldFences$Pieces", "areTogether", "(II)Z"⟩, prog_10_method_6_code, 3, some Jvm.ClassFile.FieldType.boolean, 2, []),
  (⟨"OldFences$Pieces", "nodesWith", "(I)I"⟩, prog_10_method_7_code, 2, some Jvm.ClassFile.FieldType.int, 1, []),
  (⟨"OldFences$Pieces", "gain", "(II)I"⟩, prog_10_method_8_code, 5, some Jvm.ClassFile.FieldType.int, 2, []),
  (⟨"OldFences$Pieces", "mostNodes", "()I"⟩, prog_10_method_9_code, 3, some Jvm.ClassFile.FieldType.int, 0, []),
  (⟨"OldFences$Pieces", "mostEdges", "()I"⟩, prog_10_method_10_code, 3, some Jvm.ClassFile.FieldType.int, 0, [])]
def am_mx1 : List (Nat × Nat × Nat × Nat × Nat) := [(974, 134, 1, 973, 19), (250, 136, 2, 249, 0), (680, 136, 1, 678, 679), (1200, 136, 1, 1198, 1199), (1653, 136, 1, 1651, 1652), (1657, 136, 1, 1655, 1656), (1649, 136, 1, 1647, 1648), (411, 139, 2, 410, 0), (1335, 139, 1, 1333, 1334), (1339, 139, 1, 1338, 33), (1352, 139, 1, 1350, 1351), (552, 139, 1, 550, 551), (1139, 139, 1, 1137, 1138), (1142, 139, 0, 1141, 0), (1567, 139, 1, 1565, 1566), (1571, 139, 1, 1570, 39), (1577, 139, 1, 1576, 40), (1586, 139, 1, 1585, 41), (1580, 139, 0, 1579, 0), (1590, 139, 1, 1588, 1589), (1601, 139, 1, 1599, 1600), (1604, 139, 0, 1603, 0), (384, 138, 2, 383, 0), (1304, 138, 1, 1302, 1303), (1308, 138, 1, 1306, 1307), (1357, 138, 1, 1355, 1356), (1375, 138, 1, 1373, 1374), (1465, 138, 1, 1463, 1464), (1479, 138, 1, 1477, 1478), (621, 138, 1, 619, 620), (637, 138, 0, 636, 0), (625, 138, 1, 624, 3), (1320, 138, 0, 1319, 0), (1317, 138, 1, 1316, 31), (644, 138, 1, 643, 4), (1397, 138, 1, 1395, 1396), (1401, 138, 1, 1400, 35), (1406, 138, 1, 1405, 36), (1414, 138, 1, 1413, 37), (1409, 138, 0, 1408, 0), (358, 137, 2, 357, 0), (595, 137, 1, 593, 594), (1491, 137, 1, 1489, 1490), (599, 137, 1, 598, 1), (609, 137, 1, 608, 2), (613, 137, 1, 611, 612), (1130, 137, 1, 1128, 1129), (1157, 137, 1, 1155, 1156), (1432, 137, 1, 1430, 1431), (1498, 137, 1, 1496, 1497)]
noncomputable def am_mt2 : List am_M := [(⟨"OldFences$Pieces", "nodesOfOneEdge", "()I"⟩, prog_10_method_11_code, 3, some Jvm.ClassFile.FieldType.int, 0, []),
  (⟨"OldFences$Sightings", "<init>", "()V"⟩, prog_11_method_1_code, 1, none, 0, []),
  (⟨"OldFences$Sightings", "reads", "(LOldFences$Tape;)Z"⟩, prog_11_method_2_code, 4, some Jvm.ClassFile.FieldType.boolean, 1, []),
  (⟨"OldFences$Sightings", "doesFit", "(I[II)Z"⟩, prog_11_method_3_code, 4, some Jvm.ClassFile.FieldType.boolean, 3, []),
  (⟨"OldFences$Sightings", "highIn", "(II)I"⟩, prog_11_method_4_code, 2, some Jvm.ClassFile.FieldType.int, 2, []),
  (⟨"OldFences$Sightings", "firstFit", "()I"⟩, prog_11_method_5_code, 1, some Jvm.ClassFile.FieldType.int, 0, []),
  (⟨"OldFences$Sightings", "bestYear", "()I"⟩, prog_11_method_6_code, 5, some Jvm.ClassFile.FieldType.int, 0, []),
  (⟨"OldFences$Sightings", "greatestPart", "(I)I"⟩, prog_11_method_7_code, 5, some Jvm.ClassFile.FieldType.int, 1, []),
  (⟨"OldFences$Tape", "<init>", "()V"⟩, prog_12_method_1_code, 1, none, 0, []),
  (⟨"OldFences$Tape", "hasRoom", "(I)Z"⟩, prog_12_method_2_code, 2, some Jvm.ClassFile.FieldType.boolean, 1, []),
  (⟨"OldFences$Tape", "put", "(I)V"⟩, prog_12_method_3_code, 3, none, 1, []),
  (⟨"OldFences$Tape", "cut", "(I)Z"⟩, prog_12_method_4_code, 2, some Jvm.ClassFile.FieldType.boolean, 1, []),
  (⟨"OldFences$Tape", "useUp", "()I"⟩, prog_12_method_5_code, 2, some Jvm.ClassFile.FieldType.int, 0, []),
  (⟨"OldFences$Tape", "startText", "()V"⟩, prog_12_method_6_code, 6, none, 0, []),
  (⟨"OldFences$Tape", "endOfThing", "(II)I"⟩, prog_12_method_7_code, 4, some Jvm.ClassFile.FieldType.int, 2, []),
  (⟨"OldFences$Tape", "thingOf", "(II)I"⟩, prog_12_method_8_code, 4, some Jvm.ClassFile.FieldType.int, 2, []),
  (⟨"OldFences$Tape", "number", "(II)I"⟩, prog_12_method_9_code, 5, some Jvm.ClassFile.FieldType.int, 2, []),
  (⟨"OldFences$Tape", "sign", "(I)I"⟩, prog_12_method_10_code, 1, some Jvm.ClassFile.FieldType.int, 1, []),
  (⟨"OldFences$Tape", "countyWord", "(II)I"⟩, prog_12_method_11_code, 3, some Jvm.ClassFile.FieldType.int, 2, []),
  (⟨"OldFences$Tape", "lawWord", "(II)I"⟩, prog_12_method_12_code, 3, some Jvm.ClassFile.FieldType.int, 2, []),
  (⟨"OldFences$Tape", "isWord", "(Ljava/lang/String;II)Z"⟩, prog_12_method_13_code, 5, some Jvm.ClassFile.FieldType.boolean, 3, []),
  (⟨"OldFences$Tape", "isLetter", "(I)Z"⟩, prog_12_method_14_code, 1, some Jvm.ClassFile.FieldType.boolean, 1, []),
  (⟨"OldFences$Tape", "isDigit", "(I)Z"⟩, prog_12_method_15_code, 1, some Jvm.ClassFile.FieldType.boolean, 1, []),
  (⟨"OldFences$Tape", "thing", "()I"⟩, prog_12_method_16_code, 1, some Jvm.ClassFile.FieldType.int, 0, []),
  (⟨"OldFences$Tape", "isAtEnd", "()Z"⟩, prog_12_method_17_code, 1, some Jvm.ClassFile.FieldType.boolean, 0, []),
  (⟨"OldFences$Tape", "next", "()V"⟩, prog_12_method_18_code, 1, none, 0, []),
  (⟨"OldFences$Tape", "takes", "(I)Z"⟩, prog_12_method_19_code, 3, some Jvm.ClassFile.FieldType.boolean, 1, []),
  (⟨"OldFences$Tape", "takesNumber", "(I)Z"⟩, prog_12_method_20_code, 3, some Jvm.ClassFile.FieldType.boolean, 1, []),
  (⟨"OldFences$Tape", "takesBorderFrom", "(I)Z"⟩, prog_12_method_21_code, 4, some Jvm.ClassFile.FieldType.boolean, 1, []),
  (⟨"OldFences$Tape", "refuses", "()Z"⟩, prog_12_method_22_code, 1, some Jvm.ClassFile.FieldType.boolean, 0, []),
  (⟨"OldFences", "<init>", "()V"⟩, prog_1_method_1_code, 2, none, 0, []),
  (⟨"OldFences", "feed", "(IIIII)I"⟩, prog_1_method_2_code, 6, some Jvm.ClassFile.FieldType.int, 5, []),
  (⟨"OldFences", "end", "(I)Z"⟩, prog_1_method_3_code, 2, some Jvm.ClassFile.FieldType.boolean, 1, []),
  (⟨"OldFences", "county", "()I"⟩, prog_1_method_4_code, 1, some Jvm.ClassFile.FieldType.int, 0, []),
  (⟨"OldFences", "law", "()I"⟩, prog_1_method_5_code, 1, some Jvm.ClassFile.FieldType.int, 0, []),
  (⟨"OldFences", "fault", "()I"⟩, prog_1_method_6_code, 1, some Jvm.ClassFile.FieldType.int, 0, []),
  (⟨"OldFences", "border", "(II)I"⟩, prog_1_method_7_code, 3, some Jvm.ClassFile.FieldType.int, 2, []),
  (⟨"OldFences", "between", "(II)I"⟩, prog_1_method_8_code, 3, some Jvm.ClassFile.FieldType.int, 2, []),
  (⟨"OldFences", "family", "(II)I"⟩, prog_1_method_9_code, 3, some Jvm.ClassFile.FieldType.int, 2, []),
  (⟨"OldFences", "count", "(I)I"⟩, prog_1_method_10_code, 2, some Jvm.ClassFile.FieldType.int, 1, []),
  (⟨"OldFences", "years", "(I)I"⟩, prog_1_method_11_code, 2, some Jvm.ClassFile.FieldType.int, 1, []),
  (⟨"OldFences", "raise", "(I)I"⟩, prog_1_method_12_code, 2, some Jvm.ClassFile.FieldType.int, 1, []),
  (⟨"OldFences", "pull", "(I)I"⟩, prog_1_method_13_code, 3, some Jvm.ClassFile.FieldType.int, 1, []),
  (⟨"OldFences", "gate", "(IZ)Z"⟩, prog_1_method_14_code, 4, some Jvm.ClassFile.FieldType.boolean, 2, []),
  (⟨"OldFences", "string", "(IZ)Z"⟩, prog_1_method_15_code, 4, some Jvm.ClassFile.FieldType.boolean, 2, []),
  (⟨"OldFences", "again", "(II)I"⟩, prog_1_method_16_code, 4, some Jvm.ClassFile.FieldType.int, 2, []),
  (⟨"OldFences", "forgive", "(I)I"⟩, prog_1_method_17_code, 3, some Jvm.ClassFile.FieldType.int, 1, []),
  (⟨"OldFences", "move", "(II)I"⟩, prog_1_method_18_code, 4, some Jvm.ClassFile.FieldType.int, 2, []),
  (⟨"OldFences", "learn", "(II)I"⟩, prog_1_method_19_code, 4, some Jvm.ClassFile.FieldType.int, 2, []),
  (⟨"OldFences", "open", "(II)Z"⟩, prog_1_method_20_code, 3, some Jvm.ClassFile.FieldType.boolean, 2, [])]
def am_mx2 : List (Nat × Nat × Nat × Nat × Nat) := [(1509, 137, 1, 1507, 1508), (441, 140, 2, 440, 0), (1520, 140, 1, 1518, 1519), (1524, 140, 0, 1523, 0), (1527, 140, 0, 1526, 0), (1533, 140, 1, 1531, 1532), (1544, 140, 1, 1542, 1543), (1548, 140, 1, 1547, 38), (172, 132, 2, 171, 0), (504, 132, 1, 502, 503), (508, 132, 1, 506, 507), (516, 132, 1, 514, 515), (710, 132, 1, 708, 709), (706, 132, 1, 704, 705), (714, 132, 1, 713, 5), (724, 132, 1, 723, 6), (811, 132, 1, 810, 10), (814, 132, 0, 813, 0), (728, 132, 1, 727, 7), (796, 132, 1, 795, 9), (733, 132, 1, 732, 8), (717, 132, 0, 716, 0), (720, 132, 0, 719, 0), (978, 132, 1, 976, 977), (818, 132, 1, 816, 817), (982, 132, 1, 980, 981), (826, 132, 1, 824, 825), (834, 132, 1, 832, 833), (838, 132, 1, 836, 837), (849, 132, 1, 847, 848), (164, 131, 2, 163, 0), (500, 131, 1, 498, 499), (512, 131, 1, 510, 511), (698, 131, 1, 696, 697), (949, 131, 1, 947, 948), (520, 131, 1, 518, 519), (1044, 131, 1, 1042, 1043), (1107, 131, 1, 1105, 1106), (1118, 131, 1, 1116, 1117), (524, 131, 1, 522, 523), (1166, 131, 1, 1164, 1165), (1213, 131, 1, 1211, 1212), (1237, 131, 1, 1235, 1236), (1248, 131, 1, 1246, 1247), (1255, 131, 1, 1253, 1254), (1262, 131, 1, 1260, 1261), (1272, 131, 1, 1270, 1271), (1279, 131, 1, 1277, 1278), (1286, 131, 1, 1284, 1285), (1293, 131, 1, 1291, 1292)]
noncomputable def am_mt3 : List am_M := [(⟨"OldFences", "far", "(II)I"⟩, prog_1_method_21_code, 3, some Jvm.ClassFile.FieldType.int, 2, []),
  (⟨"OldFences", "meet", "(II)Z"⟩, prog_1_method_22_code, 3, some Jvm.ClassFile.FieldType.boolean, 2, []),
  (⟨"OldFences", "halfway", "(II)I"⟩, prog_1_method_23_code, 3, some Jvm.ClassFile.FieldType.int, 2, []),
  (⟨"OldFences", "sees", "(II)Z"⟩, prog_1_method_24_code, 3, some Jvm.ClassFile.FieldType.boolean, 2, []),
  (⟨"OldFences", "waves", "()I"⟩, prog_1_method_25_code, 4, some Jvm.ClassFile.FieldType.int, 0, []),
  (⟨"OldFences", "hidden", "()I"⟩, prog_1_method_26_code, 5, some Jvm.ClassFile.FieldType.int, 0, []),
  (⟨"OldFences", "loses", "(II)I"⟩, prog_1_method_27_code, 4, some Jvm.ClassFile.FieldType.int, 2, []),
  (⟨"OldFences", "pairs", "(I)I"⟩, prog_1_method_28_code, 2, some Jvm.ClassFile.FieldType.int, 1, []),
  (⟨"OldFences", "rests", "(II)I"⟩, prog_1_method_29_code, 3, some Jvm.ClassFile.FieldType.int, 2, []),
  (⟨"OldFences", "odds", "(II)I"⟩, prog_1_method_30_code, 6, some Jvm.ClassFile.FieldType.int, 2, []),
  (⟨"OldFences", "sorest", "()I"⟩, prog_1_method_31_code, 4, some Jvm.ClassFile.FieldType.int, 0, []),
  (⟨"OldFences", "twins", "()I"⟩, prog_1_method_32_code, 4, some Jvm.ClassFile.FieldType.int, 0, []),
  (⟨"OldFences", "pulls", "(III)I"⟩, prog_1_method_33_code, 4, some Jvm.ClassFile.FieldType.int, 3, []),
  (⟨"OldFences", "lowest", "(II)I"⟩, prog_1_method_34_code, 6, some Jvm.ClassFile.FieldType.int, 2, []),
  (⟨"OldFences", "closes", "(III)I"⟩, prog_1_method_35_code, 4, some Jvm.ClassFile.FieldType.int, 3, []),
  (⟨"OldFences", "lands", "(I)I"⟩, prog_1_method_36_code, 2, some Jvm.ClassFile.FieldType.int, 1, []),
  (⟨"OldFences", "wide", "(I)I"⟩, prog_1_method_37_code, 2, some Jvm.ClassFile.FieldType.int, 1, []),
  (⟨"OldFences", "land", "(II)I"⟩, prog_1_method_38_code, 3, some Jvm.ClassFile.FieldType.int, 2, []),
  (⟨"OldFences", "gaps", "(I)I"⟩, prog_1_method_39_code, 5, some Jvm.ClassFile.FieldType.int, 1, []),
  (⟨"OldFences", "all", "(I)Z"⟩, prog_1_method_40_code, 2, some Jvm.ClassFile.FieldType.boolean, 1, []),
  (⟨"OldFences", "reach", "()I"⟩, prog_1_method_41_code, 4, some Jvm.ClassFile.FieldType.int, 0, []),
  (⟨"OldFences", "ladders", "()I"⟩, prog_1_method_42_code, 1, some Jvm.ClassFile.FieldType.int, 0, []),
  (⟨"OldFences", "one", "(II)I"⟩, prog_1_method_43_code, 3, some Jvm.ClassFile.FieldType.int, 2, []),
  (⟨"OldFences", "walk", "(III)I"⟩, prog_1_method_44_code, 4, some Jvm.ClassFile.FieldType.int, 3, []),
  (⟨"OldFences", "hangs", "(I)I"⟩, prog_1_method_45_code, 2, some Jvm.ClassFile.FieldType.int, 1, []),
  (⟨"OldFences", "ends", "(I)I"⟩, prog_1_method_46_code, 2, some Jvm.ClassFile.FieldType.int, 1, []),
  (⟨"OldFences", "seen", "(Z)I"⟩, prog_1_method_47_code, 2, some Jvm.ClassFile.FieldType.int, 1, []),
  (⟨"OldFences", "ask", "()I"⟩, prog_1_method_48_code, 1, some Jvm.ClassFile.FieldType.int, 0, []),
  (⟨"OldFences", "oldest", "()I"⟩, prog_1_method_49_code, 3, some Jvm.ClassFile.FieldType.int, 0, []),
  (⟨"OldFences", "highest", "(Z)I"⟩, prog_1_method_50_code, 5, some Jvm.ClassFile.FieldType.int, 1, []),
  (⟨"OldFences", "ahead", "(II)I"⟩, prog_1_method_51_code, 4, some Jvm.ClassFile.FieldType.int, 2, []),
  (⟨"OldFences", "trial", "(IZ)I"⟩, prog_1_method_52_code, 3, some Jvm.ClassFile.FieldType.int, 2, []),
  (⟨"OldFences", "span", "(IZ)I"⟩, prog_1_method_53_code, 6, some Jvm.ClassFile.FieldType.int, 2, []),
  (⟨"OldFences", "led", "(IZ)I"⟩, prog_1_method_54_code, 3, some Jvm.ClassFile.FieldType.int, 2, []),
  (⟨"OldFences", "log", "(II)I"⟩, prog_1_method_55_code, 3, some Jvm.ClassFile.FieldType.int, 2, []),
  (⟨"OldFences", "seed", "(I)I"⟩, prog_1_method_56_code, 3, some Jvm.ClassFile.FieldType.int, 1, []),
  (⟨"OldFences", "undo", "()Z"⟩, prog_1_method_57_code, 1, some Jvm.ClassFile.FieldType.boolean, 0, []),
  (⟨"OldFences", "image", "()V"⟩, prog_1_method_58_code, 1, none, 0, []),
  (⟨"OldFences", "back", "()Z"⟩, prog_1_method_59_code, 1, some Jvm.ClassFile.FieldType.boolean, 0, []),
  (⟨"OldFences", "needCell", "(I)V"⟩, prog_1_method_60_code, 1, none, 1, []),
  (⟨"OldFences", "needCorner", "(I)V"⟩, prog_1_method_61_code, 1, none, 1, []),
  (⟨"OldFences", "needBorder", "(I)V"⟩, prog_1_method_62_code, 1, none, 1, []),
  (⟨"OldFences", "needFamily", "(I)V"⟩, prog_1_method_63_code, 2, none, 1, []),
  (⟨"OldFences", "needTwoFamilies", "(II)V"⟩, prog_1_method_64_code, 3, none, 2, []),
  (⟨"OldFences", "needHeight", "(I)V"⟩, prog_1_method_65_code, 1, none, 1, []),
  (⟨"OldFences", "needYears", "(I)V"⟩, prog_1_method_66_code, 1, none, 1, []),
  (⟨"OldFences", "needFence", "(I)V"⟩, prog_1_method_67_code, 2, none, 1, []),
  (⟨"OldFences", "rememberAct", "()V"⟩, prog_1_method_68_code, 1, none, 0, []),
  (⟨"OldFences", "waysOf", "(I)I"⟩, prog_1_method_69_code, 2, some Jvm.ClassFile.FieldType.int, 1, []),
  (⟨"OldFences", "bestPull", "(I)I"⟩, prog_1_method_70_code, 7, some Jvm.ClassFile.FieldType.int, 1, [])]
def am_mx3 : List (Nat × Nat × Nat × Nat × Nat) := [(1300, 131, 1, 1298, 1299), (1327, 131, 1, 1325, 1326), (1348, 131, 1, 1346, 1347), (1364, 131, 1, 1362, 1363), (548, 131, 1, 546, 547), (575, 131, 1, 573, 574), (1556, 131, 1, 1554, 1555), (1563, 131, 1, 1561, 1562), (1597, 131, 1, 1595, 1596), (1611, 131, 1, 1609, 1610), (579, 131, 1, 577, 578), (583, 131, 1, 581, 582), (1371, 131, 1, 1369, 1370), (1382, 131, 1, 1380, 1381), (1393, 131, 1, 1391, 1392), (1421, 131, 1, 1419, 1420), (1428, 131, 1, 1426, 1427), (1440, 131, 1, 1438, 1439), (1447, 131, 1, 1445, 1446), (1454, 131, 1, 1452, 1453), (587, 131, 1, 585, 586), (617, 131, 1, 615, 616), (1461, 131, 1, 1459, 1460), (1472, 131, 1, 1470, 1471), (1487, 131, 1, 1485, 1486), (1505, 131, 1, 1503, 1504), (1516, 131, 1, 1514, 1515), (1540, 131, 1, 1538, 1539), (657, 131, 1, 655, 656), (661, 131, 1, 659, 660), (1619, 131, 1, 1617, 1618), (1631, 131, 1, 1629, 1630), (1638, 131, 1, 1636, 1637), (1645, 131, 1, 1643, 1644), (1664, 131, 1, 1662, 1663), (665, 131, 1, 663, 664), (669, 131, 1, 667, 668), (685, 131, 1, 683, 684), (689, 131, 1, 687, 688), (1110, 131, 0, 1109, 0), (1475, 131, 0, 1474, 0), (1047, 131, 0, 1046, 0), (1122, 131, 1, 1121, 23), (1331, 131, 1, 1330, 32), (1265, 131, 0, 1264, 0), (1622, 131, 0, 1621, 0), (1241, 131, 1, 1240, 30), (1170, 131, 1, 1169, 26), (1126, 131, 1, 1125, 24), (1152, 131, 1, 1151, 25)]
noncomputable def am_mt4 : List am_M := [(⟨"OldFences", "isWayBetween", "(III)Z"⟩, prog_1_method_71_code, 4, some Jvm.ClassFile.FieldType.boolean, 3, []),
  (⟨"OldFences", "areHomesTogether", "(I)Z"⟩, prog_1_method_72_code, 3, some Jvm.ClassFile.FieldType.boolean, 1, []),
  (⟨"OldFencesModel", "thrown", "()I"⟩, prog_14_method_1_code, 1, some Jvm.ClassFile.FieldType.int, 0, []),
  (⟨"OldFencesModel", "throwsIf", "(ZI)Z"⟩, prog_14_method_2_code, 3, some Jvm.ClassFile.FieldType.boolean, 2, []),
  (⟨"OldFencesModel", "in", "(III)Z"⟩, prog_14_method_3_code, 3, some Jvm.ClassFile.FieldType.boolean, 3, []),
  (⟨"OldFencesModel", "has", "(II)Z"⟩, prog_14_method_4_code, 2, some Jvm.ClassFile.FieldType.boolean, 2, []),
  (⟨"OldFencesModel", "<init>", "()V"⟩, prog_14_method_5_code, 1, none, 0, []),
  (⟨"OldFencesModel", "image", "()V"⟩, prog_14_method_6_code, 2, none, 0, []),
  (⟨"OldFencesModel", "back", "()Z"⟩, prog_14_method_7_code, 2, some Jvm.ClassFile.FieldType.boolean, 0, []),
  (⟨"OldFencesModel", "remembers", "()V"⟩, prog_14_method_8_code, 2, none, 0, []),
  (⟨"OldFencesModel", "undo", "()Z"⟩, prog_14_method_9_code, 2, some Jvm.ClassFile.FieldType.boolean, 0, []),
  (⟨"OldFencesModel", "keepsAll", "()V"⟩, prog_14_method_10_code, 2, none, 0, []),
  (⟨"OldFencesModel", "bringsBack", "()V"⟩, prog_14_method_11_code, 2, none, 0, []),
  (⟨"OldFencesModel", "families", "()I"⟩, prog_14_method_12_code, 1, some Jvm.ClassFile.FieldType.int, 0, []),
  (⟨"OldFencesModel", "at", "(II)I"⟩, prog_14_method_13_code, 2, some Jvm.ClassFile.FieldType.int, 2, []),
  (⟨"OldFencesModel", "of", "(II)I"⟩, prog_14_method_14_code, 3, some Jvm.ClassFile.FieldType.int, 2, []),
  (⟨"OldFencesModel", "hasFence", "(I)Z"⟩, prog_14_method_15_code, 2, some Jvm.ClassFile.FieldType.boolean, 1, []),
  (⟨"OldFencesModel", "familyAt", "(II)I"⟩, prog_14_method_16_code, 2, some Jvm.ClassFile.FieldType.int, 2, []),
  (⟨"OldFencesModel", "ofFamily", "(II)I"⟩, prog_14_method_17_code, 3, some Jvm.ClassFile.FieldType.int, 2, []),
  (⟨"OldFencesModel", "isAcross", "(I)Z"⟩, prog_14_method_18_code, 1, some Jvm.ClassFile.FieldType.boolean, 1, []),
  (⟨"OldFencesModel", "lessOf", "(I)I"⟩, prog_14_method_19_code, 1, some Jvm.ClassFile.FieldType.int, 1, []),
  (⟨"OldFencesModel", "greaterOf", "(I)I"⟩, prog_14_method_20_code, 1, some Jvm.ClassFile.FieldType.int, 1, []),
  (⟨"OldFencesModel", "sideOf", "(II)I"⟩, prog_14_method_21_code, 4, some Jvm.ClassFile.FieldType.int, 2, []),
  (⟨"OldFencesModel", "otherOf", "(II)I"⟩, prog_14_method_22_code, 2, some Jvm.ClassFile.FieldType.int, 2, []),
  (⟨"OldFencesModel", "borderOf", "(II)I"⟩, prog_14_method_23_code, 5, some Jvm.ClassFile.FieldType.int, 2, []),
  (⟨"OldFencesModel", "noCell", "(I)Z"⟩, prog_14_method_24_code, 1, some Jvm.ClassFile.FieldType.boolean, 1, []),
  (⟨"OldFencesModel", "noBorder", "(I)Z"⟩, prog_14_method_25_code, 1, some Jvm.ClassFile.FieldType.boolean, 1, []),
  (⟨"OldFencesModel", "noHeight", "(I)Z"⟩, prog_14_method_26_code, 1, some Jvm.ClassFile.FieldType.boolean, 1, []),
  (⟨"OldFencesModel", "noFamily", "(I)Z"⟩, prog_14_method_27_code, 2, some Jvm.ClassFile.FieldType.boolean, 1, []),
  (⟨"OldFencesModel", "drawn", "(I)I"⟩, prog_14_method_28_code, 2, some Jvm.ClassFile.FieldType.int, 1, []),
  (⟨"OldFencesModel", "isFence", "(IIIII)V"⟩, prog_14_method_29_code, 6, none, 5, []),
  (⟨"OldFencesModel", "isGone", "(I)V"⟩, prog_14_method_30_code, 3, none, 1, []),
  (⟨"OldFencesModel", "feed", "(IIIII)I"⟩, prog_14_method_31_code, 7, some Jvm.ClassFile.FieldType.int, 5, []),
  (⟨"OldFencesModel", "end", "(I)Z"⟩, prog_14_method_32_code, 2, some Jvm.ClassFile.FieldType.boolean, 1, []),
  (⟨"OldFencesModel", "isAt", "(II)Z"⟩, prog_14_method_33_code, 3, some Jvm.ClassFile.FieldType.boolean, 2, []),
  (⟨"OldFencesModel", "blanks", "()V"⟩, prog_14_method_34_code, 1, none, 0, []),
  (⟨"OldFencesModel", "letters", "()V"⟩, prog_14_method_35_code, 1, none, 0, []),
  (⟨"OldFencesModel", "isWord", "(Ljava/lang/String;)Z"⟩, prog_14_method_36_code, 4, some Jvm.ClassFile.FieldType.boolean, 1, []),
  (⟨"OldFencesModel", "passes", "(Ljava/lang/String;)Z"⟩, prog_14_method_37_code, 2, some Jvm.ClassFile.FieldType.boolean, 1, []),
  (⟨"OldFencesModel", "sign", "(I)Z"⟩, prog_14_method_38_code, 2, some Jvm.ClassFile.FieldType.boolean, 1, []),
  (⟨"OldFencesModel", "number", "(II)I"⟩, prog_14_method_39_code, 4, some Jvm.ClassFile.FieldType.int, 2, []),
  (⟨"OldFencesModel", "behind", "(Ljava/lang/String;II)I"⟩, prog_14_method_40_code, 4, some Jvm.ClassFile.FieldType.int, 3, []),
  (⟨"OldFencesModel", "told", "(Ljava/lang/String;I)I"⟩, prog_14_method_41_code, 3, some Jvm.ClassFile.FieldType.int, 2, []),
  (⟨"OldFencesModel", "fault", "()I"⟩, prog_14_method_42_code, 1, some Jvm.ClassFile.FieldType.int, 0, []),
  (⟨"OldFencesModel", "uses", "()V"⟩, prog_14_method_43_code, 1, none, 0, []),
  (⟨"OldFencesModel", "readNumber", "(III)Z"⟩, prog_14_method_44_code, 5, some Jvm.ClassFile.FieldType.boolean, 3, []),
  (⟨"OldFencesModel", "readFence", "()Z"⟩, prog_14_method_45_code, 7, some Jvm.ClassFile.FieldType.boolean, 0, []),
  (⟨"OldFencesModel", "readRow", "()Z"⟩, prog_14_method_46_code, 4, some Jvm.ClassFile.FieldType.boolean, 0, []),
  (⟨"OldFencesModel", "readFamily", "()Z"⟩, prog_14_method_47_code, 5, some Jvm.ClassFile.FieldType.boolean, 0, []),
  (⟨"OldFencesModel", "readCountyLine", "()Z"⟩, prog_14_method_48_code, 1, some Jvm.ClassFile.FieldType.boolean, 0, [])]
def am_mx4 : List (Nat × Nat × Nat × Nat × Nat) := [(1386, 131, 1, 1385, 34), (591, 131, 1, 590, 0), (1669, 141, 1, 1667, 1668), (1962, 141, 1, 1961, 70), (1976, 141, 0, 1975, 0), (2382, 141, 0, 2381, 0), (1674, 141, 2, 1673, 0), (1773, 141, 1, 1771, 1772), (1777, 141, 1, 1775, 1776), (2019, 141, 1, 2018, 78), (1781, 141, 1, 1779, 1780), (2425, 141, 1, 2424, 127), (2429, 141, 1, 2428, 128), (1895, 141, 1, 1894, 58), (1877, 141, 0, 1876, 0), (1984, 141, 1, 1983, 72), (1980, 141, 1, 1979, 71), (1901, 141, 0, 1900, 0), (2037, 141, 1, 2036, 82), (1855, 141, 0, 1854, 0), (1852, 141, 0, 1851, 0), (1858, 141, 0, 1857, 0), (1846, 141, 0, 1845, 0), (1849, 141, 0, 1848, 0), (1843, 141, 0, 1842, 0), (2011, 141, 0, 2010, 0), (1973, 141, 0, 1972, 0), (2093, 141, 0, 2092, 0), (2101, 141, 1, 2100, 91), (2049, 141, 1, 2048, 85), (1874, 141, 1, 1873, 54), (2074, 141, 1, 2073, 89), (1785, 141, 1, 1783, 1784), (1789, 141, 1, 1787, 1788), (1813, 141, 1, 1812, 45), (1809, 141, 1, 1808, 44), (1821, 141, 1, 1820, 47), (1830, 141, 1, 1829, 49), (1867, 141, 1, 1866, 53), (1931, 141, 1, 1930, 64), (1840, 141, 1, 1839, 51), (1886, 141, 1, 1885, 56), (1863, 141, 1, 1862, 52), (1793, 141, 1, 1791, 1792), (1805, 141, 1, 1804, 43), (1906, 141, 1, 1905, 59), (1836, 141, 1, 1835, 50), (1882, 141, 1, 1881, 55), (1891, 141, 1, 1890, 57), (1825, 141, 1, 1824, 48)]
noncomputable def am_mt5 : List am_M := [(⟨"OldFencesModel", "emits", "(II)V"⟩, prog_14_method_49_code, 3, none, 2, []),
  (⟨"OldFencesModel", "wordOfPart", "()I"⟩, prog_14_method_50_code, 1, some Jvm.ClassFile.FieldType.int, 0, []),
  (⟨"OldFencesModel", "readPart", "()Z"⟩, prog_14_method_51_code, 3, some Jvm.ClassFile.FieldType.boolean, 0, []),
  (⟨"OldFencesModel", "readSum", "()Z"⟩, prog_14_method_52_code, 1, some Jvm.ClassFile.FieldType.boolean, 0, []),
  (⟨"OldFencesModel", "readTag", "()Z"⟩, prog_14_method_53_code, 2, some Jvm.ClassFile.FieldType.boolean, 0, []),
  (⟨"OldFencesModel", "readAtom", "()Z"⟩, prog_14_method_54_code, 2, some Jvm.ClassFile.FieldType.boolean, 0, []),
  (⟨"OldFencesModel", "readAllOf", "()Z"⟩, prog_14_method_55_code, 1, some Jvm.ClassFile.FieldType.boolean, 0, []),
  (⟨"OldFencesModel", "readCond", "()Z"⟩, prog_14_method_56_code, 1, some Jvm.ClassFile.FieldType.boolean, 0, []),
  (⟨"OldFencesModel", "readLawLine", "(I)Z"⟩, prog_14_method_57_code, 3, some Jvm.ClassFile.FieldType.boolean, 1, []),
  (⟨"OldFencesModel", "readLine", "(ZI)Z"⟩, prog_14_method_58_code, 3, some Jvm.ClassFile.FieldType.boolean, 2, []),
  (⟨"OldFencesModel", "readAll", "(Z)I"⟩, prog_14_method_59_code, 3, some Jvm.ClassFile.FieldType.int, 1, []),
  (⟨"OldFencesModel", "county", "()I"⟩, prog_14_method_60_code, 3, some Jvm.ClassFile.FieldType.int, 0, []),
  (⟨"OldFencesModel", "law", "()I"⟩, prog_14_method_61_code, 3, some Jvm.ClassFile.FieldType.int, 0, []),
  (⟨"OldFencesModel", "factOf", "(III)I"⟩, prog_14_method_62_code, 4, some Jvm.ClassFile.FieldType.int, 3, []),
  (⟨"OldFencesModel", "holdsLine", "(II)Z"⟩, prog_14_method_63_code, 10, some Jvm.ClassFile.FieldType.boolean, 2, []),
  (⟨"OldFencesModel", "sumOf", "(II)I"⟩, prog_14_method_64_code, 5, some Jvm.ClassFile.FieldType.int, 2, []),
  (⟨"OldFencesModel", "growsBy", "(I)I"⟩, prog_14_method_65_code, 2, some Jvm.ClassFile.FieldType.int, 1, []),
  (⟨"OldFencesModel", "soresBy", "(I)I"⟩, prog_14_method_66_code, 2, some Jvm.ClassFile.FieldType.int, 1, []),
  (⟨"OldFencesModel", "border", "(II)I"⟩, prog_14_method_67_code, 3, some Jvm.ClassFile.FieldType.int, 2, []),
  (⟨"OldFencesModel", "between", "(II)I"⟩, prog_14_method_68_code, 3, some Jvm.ClassFile.FieldType.int, 2, []),
  (⟨"OldFencesModel", "tells", "(IIII)V"⟩, prog_14_method_69_code, 6, none, 4, []),
  (⟨"OldFencesModel", "grows", "(I)V"⟩, prog_14_method_70_code, 2, none, 1, []),
  (⟨"OldFencesModel", "soresAt", "(I)I"⟩, prog_14_method_71_code, 5, some Jvm.ClassFile.FieldType.int, 1, []),
  (⟨"OldFencesModel", "quarrels", "(I)Z"⟩, prog_14_method_72_code, 3, some Jvm.ClassFile.FieldType.boolean, 1, []),
  (⟨"OldFencesModel", "oneYear", "(Z)I"⟩, prog_14_method_73_code, 4, some Jvm.ClassFile.FieldType.int, 1, []),
  (⟨"OldFencesModel", "goesOn", "(IZ)I"⟩, prog_14_method_74_code, 5, some Jvm.ClassFile.FieldType.int, 2, []),
  (⟨"OldFencesModel", "years", "(I)I"⟩, prog_14_method_75_code, 2, some Jvm.ClassFile.FieldType.int, 1, []),
  (⟨"OldFencesModel", "sumOfFences", "(I)I"⟩, prog_14_method_76_code, 4, some Jvm.ClassFile.FieldType.int, 1, []),
  (⟨"OldFencesModel", "raise", "(I)I"⟩, prog_14_method_77_code, 2, some Jvm.ClassFile.FieldType.int, 1, []),
  (⟨"OldFencesModel", "cannot", "(I)Z"⟩, prog_14_method_78_code, 2, some Jvm.ClassFile.FieldType.boolean, 1, []),
  (⟨"OldFencesModel", "pull", "(I)I"⟩, prog_14_method_79_code, 3, some Jvm.ClassFile.FieldType.int, 1, []),
  (⟨"OldFencesModel", "isNow", "(IIZ)Z"⟩, prog_14_method_80_code, 5, some Jvm.ClassFile.FieldType.boolean, 3, []),
  (⟨"OldFencesModel", "gate", "(IZ)Z"⟩, prog_14_method_81_code, 3, some Jvm.ClassFile.FieldType.boolean, 2, []),
  (⟨"OldFencesModel", "string", "(IZ)Z"⟩, prog_14_method_82_code, 3, some Jvm.ClassFile.FieldType.boolean, 2, []),
  (⟨"OldFencesModel", "again", "(II)I"⟩, prog_14_method_83_code, 4, some Jvm.ClassFile.FieldType.int, 2, []),
  (⟨"OldFencesModel", "familyNow", "(III)I"⟩, prog_14_method_84_code, 5, some Jvm.ClassFile.FieldType.int, 3, []),
  (⟨"OldFencesModel", "forgive", "(I)I"⟩, prog_14_method_85_code, 2, some Jvm.ClassFile.FieldType.int, 1, []),
  (⟨"OldFencesModel", "move", "(II)I"⟩, prog_14_method_86_code, 3, some Jvm.ClassFile.FieldType.int, 2, []),
  (⟨"OldFencesModel", "learn", "(II)I"⟩, prog_14_method_87_code, 3, some Jvm.ClassFile.FieldType.int, 2, []),
  (⟨"OldFencesModel", "isOpen", "(II)Z"⟩, prog_14_method_88_code, 3, some Jvm.ClassFile.FieldType.boolean, 2, []),
  (⟨"OldFencesModel", "costOf", "(I)I"⟩, prog_14_method_89_code, 2, some Jvm.ClassFile.FieldType.int, 1, []),
  (⟨"OldFencesModel", "addsBy", "(III)I"⟩, prog_14_method_90_code, 4, some Jvm.ClassFile.FieldType.int, 3, []),
  (⟨"OldFencesModel", "on", "(III)I"⟩, prog_14_method_91_code, 3, some Jvm.ClassFile.FieldType.int, 3, []),
  (⟨"OldFencesModel", "flows", "(II)V"⟩, prog_14_method_92_code, 8, none, 2, []),
  (⟨"OldFencesModel", "from", "(III)V"⟩, prog_14_method_93_code, 5, none, 3, []),
  (⟨"OldFencesModel", "manyReached", "()I"⟩, prog_14_method_94_code, 3, some Jvm.ClassFile.FieldType.int, 0, []),
  (⟨"OldFencesModel", "waysOf", "(I)I"⟩, prog_14_method_95_code, 2, some Jvm.ClassFile.FieldType.int, 1, []),
  (⟨"OldFencesModel", "farOf", "(II)I"⟩, prog_14_method_96_code, 3, some Jvm.ClassFile.FieldType.int, 2, []),
  (⟨"OldFencesModel", "towerOf", "(I)I"⟩, prog_14_method_97_code, 5, some Jvm.ClassFile.FieldType.int, 1, []),
  (⟨"OldFencesModel", "gapOf", "(II)I"⟩, prog_14_method_98_code, 2, some Jvm.ClassFile.FieldType.int, 2, [])]
def am_mx5 : List (Nat × Nat × Nat × Nat × Nat) := [(1936, 141, 1, 1935, 65), (1953, 141, 1, 1952, 69), (1949, 141, 1, 1948, 68), (1945, 141, 1, 1944, 67), (1940, 141, 1, 1939, 66), (1927, 141, 1, 1926, 63), (1923, 141, 1, 1922, 62), (1919, 141, 1, 1918, 61), (1911, 141, 1, 1910, 60), (1817, 141, 1, 1816, 46), (1801, 141, 1, 1800, 42), (1797, 141, 1, 1795, 1796), (1966, 141, 1, 1964, 1965), (2000, 141, 1, 1999, 76), (1996, 141, 1, 1995, 75), (1992, 141, 1, 1991, 74), (1988, 141, 1, 1987, 73), (2004, 141, 1, 2003, 77), (1970, 141, 1, 1968, 1969), (2008, 141, 1, 2006, 2007), (2054, 141, 1, 2053, 86), (2031, 141, 1, 2030, 81), (2041, 141, 1, 2040, 83), (2045, 141, 1, 2044, 84), (2027, 141, 1, 2026, 80), (2023, 141, 1, 2022, 79), (2015, 141, 1, 2013, 2014), (2062, 141, 1, 2061, 87), (2058, 141, 1, 2056, 2057), (2070, 141, 1, 2069, 88), (2066, 141, 1, 2064, 2065), (2082, 141, 1, 2081, 90), (2078, 141, 1, 2076, 2077), (2086, 141, 1, 2084, 2085), (2090, 141, 1, 2088, 2089), (2105, 141, 1, 2104, 92), (2097, 141, 1, 2095, 2096), (2109, 141, 1, 2107, 2108), (2113, 141, 1, 2111, 2112), (2138, 141, 1, 2137, 97), (2142, 141, 1, 2141, 98), (2134, 141, 1, 2133, 96), (2145, 141, 0, 2144, 0), (2130, 141, 1, 2129, 95), (2125, 141, 1, 2124, 94), (2149, 141, 1, 2148, 99), (2121, 141, 1, 2120, 93), (2181, 141, 1, 2180, 104), (2153, 141, 1, 2152, 100), (2164, 141, 0, 2163, 0)]
noncomputable def am_mt6 : List am_M := [(⟨"OldFencesModel", "nearestTo", "(I)I"⟩, prog_14_method_99_code, 4, some Jvm.ClassFile.FieldType.int, 1, []),
  (⟨"OldFencesModel", "shareOf", "(I)I"⟩, prog_14_method_100_code, 4, some Jvm.ClassFile.FieldType.int, 1, []),
  (⟨"OldFencesModel", "givesOf", "(I)I"⟩, prog_14_method_101_code, 6, some Jvm.ClassFile.FieldType.int, 1, []),
  (⟨"OldFencesModel", "family", "(II)I"⟩, prog_14_method_102_code, 3, some Jvm.ClassFile.FieldType.int, 2, []),
  (⟨"OldFencesModel", "open", "(II)Z"⟩, prog_14_method_103_code, 3, some Jvm.ClassFile.FieldType.boolean, 2, []),
  (⟨"OldFencesModel", "orNone", "(I)I"⟩, prog_14_method_104_code, 1, some Jvm.ClassFile.FieldType.int, 1, []),
  (⟨"OldFencesModel", "far", "(II)I"⟩, prog_14_method_105_code, 3, some Jvm.ClassFile.FieldType.int, 2, []),
  (⟨"OldFencesModel", "noTwo", "(II)Z"⟩, prog_14_method_106_code, 3, some Jvm.ClassFile.FieldType.boolean, 2, []),
  (⟨"OldFencesModel", "canMeet", "(II)Z"⟩, prog_14_method_107_code, 3, some Jvm.ClassFile.FieldType.boolean, 2, []),
  (⟨"OldFencesModel", "meet", "(II)Z"⟩, prog_14_method_108_code, 3, some Jvm.ClassFile.FieldType.boolean, 2, []),
  (⟨"OldFencesModel", "halfway", "(II)I"⟩, prog_14_method_109_code, 7, some Jvm.ClassFile.FieldType.int, 2, []),
  (⟨"OldFencesModel", "seesOver", "(II)Z"⟩, prog_14_method_110_code, 3, some Jvm.ClassFile.FieldType.boolean, 2, []),
  (⟨"OldFencesModel", "seesCell", "(II)Z"⟩, prog_14_method_111_code, 7, some Jvm.ClassFile.FieldType.boolean, 2, []),
  (⟨"OldFencesModel", "sees", "(II)Z"⟩, prog_14_method_112_code, 3, some Jvm.ClassFile.FieldType.boolean, 2, []),
  (⟨"OldFencesModel", "waves", "()I"⟩, prog_14_method_113_code, 4, some Jvm.ClassFile.FieldType.int, 0, []),
  (⟨"OldFencesModel", "hidden", "()I"⟩, prog_14_method_114_code, 5, some Jvm.ClassFile.FieldType.int, 0, []),
  (⟨"OldFencesModel", "noCells", "(III)Z"⟩, prog_14_method_115_code, 4, some Jvm.ClassFile.FieldType.boolean, 3, []),
  (⟨"OldFencesModel", "pulls", "(III)I"⟩, prog_14_method_116_code, 4, some Jvm.ClassFile.FieldType.int, 3, []),
  (⟨"OldFencesModel", "lowest", "(II)I"⟩, prog_14_method_117_code, 3, some Jvm.ClassFile.FieldType.int, 2, []),
  (⟨"OldFencesModel", "one", "(II)I"⟩, prog_14_method_118_code, 3, some Jvm.ClassFile.FieldType.int, 2, []),
  (⟨"OldFencesModel", "mayGo", "(III)Z"⟩, prog_14_method_119_code, 4, some Jvm.ClassFile.FieldType.boolean, 3, []),
  (⟨"OldFencesModel", "goesOnce", "(III)Z"⟩, prog_14_method_120_code, 8, some Jvm.ClassFile.FieldType.boolean, 3, []),
  (⟨"OldFencesModel", "closes", "(III)I"⟩, prog_14_method_121_code, 5, some Jvm.ClassFile.FieldType.int, 3, []),
  (⟨"OldFencesModel", "laysLands", "(I)I"⟩, prog_14_method_122_code, 7, some Jvm.ClassFile.FieldType.int, 1, []),
  (⟨"OldFencesModel", "sizeOf", "(I)I"⟩, prog_14_method_123_code, 4, some Jvm.ClassFile.FieldType.int, 1, []),
  (⟨"OldFencesModel", "wrongHeight", "(I)Z"⟩, prog_14_method_124_code, 2, some Jvm.ClassFile.FieldType.boolean, 1, []),
  (⟨"OldFencesModel", "lands", "(I)I"⟩, prog_14_method_125_code, 2, some Jvm.ClassFile.FieldType.int, 1, []),
  (⟨"OldFencesModel", "wide", "(I)I"⟩, prog_14_method_126_code, 4, some Jvm.ClassFile.FieldType.int, 1, []),
  (⟨"OldFencesModel", "land", "(II)I"⟩, prog_14_method_127_code, 3, some Jvm.ClassFile.FieldType.int, 2, []),
  (⟨"OldFencesModel", "gaps", "(I)I"⟩, prog_14_method_128_code, 6, some Jvm.ClassFile.FieldType.int, 1, []),
  (⟨"OldFencesModel", "allMeet", "(I)Z"⟩, prog_14_method_129_code, 4, some Jvm.ClassFile.FieldType.boolean, 1, []),
  (⟨"OldFencesModel", "all", "(I)Z"⟩, prog_14_method_130_code, 2, some Jvm.ClassFile.FieldType.boolean, 1, []),
  (⟨"OldFencesModel", "reach", "()I"⟩, prog_14_method_131_code, 3, some Jvm.ClassFile.FieldType.int, 0, []),
  (⟨"OldFencesModel", "togetherAt", "(II)I"⟩, prog_14_method_132_code, 2, some Jvm.ClassFile.FieldType.int, 2, []),
  (⟨"OldFencesModel", "joins", "(I)V"⟩, prog_14_method_133_code, 5, none, 1, []),
  (⟨"OldFencesModel", "ladders", "()I"⟩, prog_14_method_134_code, 3, some Jvm.ClassFile.FieldType.int, 0, []),
  (⟨"OldFencesModel", "cornerAt", "(II)I"⟩, prog_14_method_135_code, 2, some Jvm.ClassFile.FieldType.int, 2, []),
  (⟨"OldFencesModel", "beginOf", "(I)I"⟩, prog_14_method_136_code, 3, some Jvm.ClassFile.FieldType.int, 1, []),
  (⟨"OldFencesModel", "endOf", "(I)I"⟩, prog_14_method_137_code, 1, some Jvm.ClassFile.FieldType.int, 1, []),
  (⟨"OldFencesModel", "isTop", "(II)Z"⟩, prog_14_method_138_code, 3, some Jvm.ClassFile.FieldType.boolean, 2, []),
  (⟨"OldFencesModel", "walks", "(II)V"⟩, prog_14_method_139_code, 7, none, 2, []),
  (⟨"OldFencesModel", "walk", "(III)I"⟩, prog_14_method_140_code, 4, some Jvm.ClassFile.FieldType.int, 3, []),
  (⟨"OldFencesModel", "hangs", "(I)I"⟩, prog_14_method_141_code, 6, some Jvm.ClassFile.FieldType.int, 1, []),
  (⟨"OldFencesModel", "ends", "(I)I"⟩, prog_14_method_142_code, 6, some Jvm.ClassFile.FieldType.int, 1, []),
  (⟨"OldFencesModel", "isSeen", "()Z"⟩, prog_14_method_143_code, 3, some Jvm.ClassFile.FieldType.boolean, 0, []),
  (⟨"OldFencesModel", "highIn", "(II)I"⟩, prog_14_method_144_code, 2, some Jvm.ClassFile.FieldType.int, 2, []),
  (⟨"OldFencesModel", "fits", "(I)Z"⟩, prog_14_method_145_code, 4, some Jvm.ClassFile.FieldType.boolean, 1, []),
  (⟨"OldFencesModel", "seen", "(Z)I"⟩, prog_14_method_146_code, 5, some Jvm.ClassFile.FieldType.int, 1, []),
  (⟨"OldFencesModel", "partBy", "(I)I"⟩, prog_14_method_147_code, 5, some Jvm.ClassFile.FieldType.int, 1, []),
  (⟨"OldFencesModel", "ask", "()I"⟩, prog_14_method_148_code, 6, some Jvm.ClassFile.FieldType.int, 0, [])]
def am_mx6 : List (Nat × Nat × Nat × Nat × Nat) := [(2161, 141, 1, 2160, 102), (2157, 141, 1, 2156, 101), (2169, 141, 1, 2168, 103), (2117, 141, 1, 2115, 2116), (2173, 141, 1, 2171, 2172), (2184, 141, 0, 2183, 0), (2177, 141, 1, 2175, 2176), (2192, 141, 1, 2191, 105), (2196, 141, 1, 2195, 106), (2188, 141, 1, 2186, 2187), (2200, 141, 1, 2198, 2199), (2212, 141, 1, 2211, 108), (2208, 141, 1, 2207, 107), (2204, 141, 1, 2202, 2203), (2216, 141, 1, 2214, 2215), (2220, 141, 1, 2218, 2219), (2228, 141, 1, 2227, 109), (2224, 141, 1, 2222, 2223), (2232, 141, 1, 2230, 2231), (2236, 141, 1, 2234, 2235), (2248, 141, 1, 2247, 111), (2244, 141, 1, 2243, 110), (2240, 141, 1, 2238, 2239), (2260, 141, 1, 2259, 113), (2268, 141, 1, 2267, 114), (2256, 141, 1, 2255, 112), (2252, 141, 1, 2250, 2251), (2264, 141, 1, 2262, 2263), (2272, 141, 1, 2270, 2271), (2276, 141, 1, 2274, 2275), (2284, 141, 1, 2283, 115), (2280, 141, 1, 2278, 2279), (2288, 141, 1, 2286, 2287), (2299, 141, 0, 2298, 0), (2296, 141, 1, 2295, 116), (2292, 141, 1, 2290, 2291), (2317, 141, 0, 2316, 0), (2314, 141, 0, 2313, 0), (2320, 141, 0, 2319, 0), (2311, 141, 1, 2310, 118), (2307, 141, 1, 2306, 117), (2303, 141, 1, 2301, 2302), (2324, 141, 1, 2322, 2323), (2328, 141, 1, 2326, 2327), (2336, 141, 1, 2335, 119), (2343, 141, 0, 2342, 0), (2340, 141, 1, 2339, 120), (2332, 141, 1, 2330, 2331), (2351, 141, 1, 2350, 121), (2347, 141, 1, 2345, 2346)]
noncomputable def am_mt7 : List am_M := [(⟨"OldFencesModel", "loses", "(II)I"⟩, prog_14_method_149_code, 5, some Jvm.ClassFile.FieldType.int, 2, []),
  (⟨"OldFencesModel", "laysWorth", "()V"⟩, prog_14_method_150_code, 3, none, 0, []),
  (⟨"OldFencesModel", "firstOf", "(I)I"⟩, prog_14_method_151_code, 1, some Jvm.ClassFile.FieldType.int, 1, []),
  (⟨"OldFencesModel", "pairedBy", "(II)I"⟩, prog_14_method_152_code, 5, some Jvm.ClassFile.FieldType.int, 2, []),
  (⟨"OldFencesModel", "laysPairs", "()V"⟩, prog_14_method_153_code, 4, none, 0, []),
  (⟨"OldFencesModel", "pairs", "(I)I"⟩, prog_14_method_154_code, 7, some Jvm.ClassFile.FieldType.int, 1, []),
  (⟨"OldFencesModel", "neighbourHas", "(III)I"⟩, prog_14_method_155_code, 4, some Jvm.ClassFile.FieldType.int, 3, []),
  (⟨"OldFencesModel", "rests", "(II)I"⟩, prog_14_method_156_code, 6, some Jvm.ClassFile.FieldType.int, 2, []),
  (⟨"OldFencesModel", "odds", "(II)I"⟩, prog_14_method_157_code, 6, some Jvm.ClassFile.FieldType.int, 2, []),
  (⟨"OldFencesModel", "mostOf", "(IZ)I"⟩, prog_14_method_158_code, 5, some Jvm.ClassFile.FieldType.int, 2, []),
  (⟨"OldFencesModel", "oldest", "()I"⟩, prog_14_method_159_code, 1, some Jvm.ClassFile.FieldType.int, 0, []),
  (⟨"OldFencesModel", "highest", "(Z)I"⟩, prog_14_method_160_code, 2, some Jvm.ClassFile.FieldType.int, 1, []),
  (⟨"OldFencesModel", "sorest", "()I"⟩, prog_14_method_161_code, 4, some Jvm.ClassFile.FieldType.int, 0, []),
  (⟨"OldFencesModel", "twins", "()I"⟩, prog_14_method_162_code, 4, some Jvm.ClassFile.FieldType.int, 0, []),
  (⟨"OldFencesModel", "noAhead", "(I)Z"⟩, prog_14_method_163_code, 1, some Jvm.ClassFile.FieldType.boolean, 1, []),
  (⟨"OldFencesModel", "ahead", "(II)I"⟩, prog_14_method_164_code, 4, some Jvm.ClassFile.FieldType.int, 2, []),
  (⟨"OldFencesModel", "trial", "(IZ)I"⟩, prog_14_method_165_code, 4, some Jvm.ClassFile.FieldType.int, 2, []),
  (⟨"OldFencesModel", "span", "(IZ)I"⟩, prog_14_method_166_code, 6, some Jvm.ClassFile.FieldType.int, 2, []),
  (⟨"OldFencesModel", "ofLog", "(II)I"⟩, prog_14_method_167_code, 3, some Jvm.ClassFile.FieldType.int, 2, []),
  (⟨"OldFencesModel", "led", "(IZ)I"⟩, prog_14_method_168_code, 6, some Jvm.ClassFile.FieldType.int, 2, []),
  (⟨"OldFencesModel", "log", "(II)I"⟩, prog_14_method_169_code, 3, some Jvm.ClassFile.FieldType.int, 2, []),
  (⟨"OldFencesModel", "seed", "(I)I"⟩, prog_14_method_170_code, 3, some Jvm.ClassFile.FieldType.int, 1, []),
  (⟨"OldFencesModel", "count", "(I)I"⟩, prog_14_method_171_code, 4, some Jvm.ClassFile.FieldType.int, 1, []),
  (⟨"java/lang/Integer", "numberOfTrailingZeros", "(I)I"⟩, prog_23_method_48_code, 2, some Jvm.ClassFile.FieldType.int, 1, []),
  (⟨"java/lang/Math", "abs", "(I)I"⟩, prog_24_method_59_code, 1, some Jvm.ClassFile.FieldType.int, 1, []),
  (⟨"java/lang/Math", "max", "(II)I"⟩, prog_24_method_65_code, 2, some Jvm.ClassFile.FieldType.int, 2, []),
  (⟨"java/lang/Math", "min", "(II)I"⟩, prog_24_method_69_code, 2, some Jvm.ClassFile.FieldType.int, 2, []),
  (⟨"java/lang/String", "length", "()I"⟩, prog_26_method_54_code, 1, some Jvm.ClassFile.FieldType.int, 0, []),
  (⟨"java/lang/String", "charAt", "(I)C"⟩, prog_26_method_56_code, 2, some Jvm.ClassFile.FieldType.char, 1, []),
  (⟨"java/lang/String", "coder", "()B"⟩, prog_26_method_152_code, 1, some Jvm.ClassFile.FieldType.byte, 0, []),
  (⟨"java/lang/String", "isLatin1", "()Z"⟩, prog_26_method_154_code, 1, some Jvm.ClassFile.FieldType.boolean, 0, []),
  (⟨"java/lang/String", "checkIndex", "(II)V"⟩, prog_26_method_155_code, 2, none, 2, []),
  (⟨"java/lang/StringLatin1", "charAt", "([BI)C"⟩, prog_27_method_2_code, 2, some Jvm.ClassFile.FieldType.char, 2, []),
  (⟨"java/util/Arrays", "fill", "([II)V"⟩, prog_34_method_103_code, 4, none, 2, []),
  (⟨"java/util/Arrays", "copyOf", "([II)[I"⟩, prog_34_method_123_code, 3, some (Jvm.ClassFile.FieldType.array Jvm.ClassFile.FieldType.int), 2, []),
  (⟨"jdk/internal/util/Preconditions", "checkIndex", "(IILjava/util/function/BiFunction;)I"⟩, prog_36_method_11_code, 3, some Jvm.ClassFile.FieldType.int, 3, []),
  (⟨"OldFencesLaw", "county", "(LOldFences;[J)I"⟩, method_3_code, 3, some Jvm.ClassFile.FieldType.int, 2, [(0, 8, 11, 13), (0, 8, 14, 15)]),
  (⟨"OldFencesLaw", "law", "(LOldFences;[J)I"⟩, method_4_code, 3, some Jvm.ClassFile.FieldType.int, 2, [(0, 8, 11, 13)]),
  (⟨"OldFencesLaw", "border", "(LOldFences;II[J)I"⟩, method_5_code, 5, some Jvm.ClassFile.FieldType.int, 4, [(0, 10, 13, 24), (0, 10, 17, 26)]),
  (⟨"OldFencesLaw", "between", "(LOldFences;II[J)I"⟩, method_6_code, 5, some Jvm.ClassFile.FieldType.int, 4, [(0, 10, 13, 24)]),
  (⟨"OldFencesLaw", "family", "(LOldFences;II[J)I"⟩, method_7_code, 5, some Jvm.ClassFile.FieldType.int, 4, [(0, 10, 13, 24), (0, 10, 17, 26)]),
  (⟨"OldFencesLaw", "years", "(LOldFences;I[J)I"⟩, method_8_code, 4, some Jvm.ClassFile.FieldType.int, 3, [(0, 9, 12, 13)]),
  (⟨"OldFencesLaw", "raise", "(LOldFences;I[J)I"⟩, method_9_code, 4, some Jvm.ClassFile.FieldType.int, 3, [(0, 9, 12, 24), (0, 9, 15, 41)]),
  (⟨"OldFencesLaw", "pull", "(LOldFences;I[J)I"⟩, method_10_code, 4, some Jvm.ClassFile.FieldType.int, 3, [(0, 9, 12, 24), (0, 9, 15, 41)]),
  (⟨"OldFencesLaw", "gate", "(LOldFences;IZ[J)I"⟩, method_11_code, 5, some Jvm.ClassFile.FieldType.int, 4, [(0, 17, 20, 24), (0, 17, 24, 41)]),
  (⟨"OldFencesLaw", "string", "(LOldFences;IZ[J)I"⟩, method_12_code, 5, some Jvm.ClassFile.FieldType.int, 4, [(0, 17, 20, 24), (0, 17, 24, 41)]),
  (⟨"OldFencesLaw", "again", "(LOldFences;II[J)I"⟩, method_13_code, 5, some Jvm.ClassFile.FieldType.int, 4, [(0, 10, 13, 24), (0, 10, 17, 13), (0, 10, 21, 41)]),
  (⟨"OldFencesLaw", "forgive", "(LOldFences;I[J)I"⟩, method_14_code, 4, some Jvm.ClassFile.FieldType.int, 3, [(0, 9, 12, 24)]),
  (⟨"OldFencesLaw", "move", "(LOldFences;II[J)I"⟩, method_15_code, 5, some Jvm.ClassFile.FieldType.int, 4, [(0, 10, 13, 24)]),
  (⟨"OldFencesLaw", "learn", "(LOldFences;II[J)I"⟩, method_16_code, 5, some Jvm.ClassFile.FieldType.int, 4, [(0, 10, 13, 24), (0, 10, 17, 13)])]
def am_mx7 : List (Nat × Nat × Nat × Nat × Nat) := [(2355, 141, 1, 2353, 2354), (2367, 141, 1, 2366, 123), (2375, 141, 0, 2374, 0), (2372, 141, 1, 2371, 124), (2363, 141, 1, 2362, 122), (2359, 141, 1, 2357, 2358), (2390, 141, 1, 2389, 125), (2386, 141, 1, 2384, 2385), (2394, 141, 1, 2392, 2393), (2402, 141, 1, 2401, 126), (2398, 141, 1, 2396, 2397), (2406, 141, 1, 2404, 2405), (2410, 141, 1, 2408, 2409), (2414, 141, 1, 2412, 2413), (2421, 141, 0, 2420, 0), (2418, 141, 1, 2416, 2417), (2433, 141, 1, 2431, 2432), (2437, 141, 1, 2435, 2436), (2445, 141, 1, 2444, 129), (2441, 141, 1, 2439, 2440), (2449, 141, 1, 2447, 2448), (2453, 141, 1, 2451, 2452), (2457, 141, 1, 2455, 2456), (2378, 159, 0, 2377, 0), (1148, 148, 0, 1147, 0), (845, 148, 0, 844, 0), (640, 148, 0, 639, 0), (737, 143, 1, 735, 736), (747, 143, 1, 745, 746), (741, 143, 1, 739, 740), (751, 143, 1, 749, 750), (757, 143, 0, 756, 0), (754, 144, 0, 753, 0), (634, 155, 0, 633, 0), (1002, 155, 0, 1001, 0), (762, 145, 0, 761, 0), (692, 130, 0, 691, 0), (945, 130, 0, 944, 0), (1038, 130, 0, 1037, 0), (1103, 130, 0, 1102, 0), (1114, 130, 0, 1113, 0), (1162, 130, 0, 1161, 0), (1208, 130, 0, 1207, 0), (1233, 130, 0, 1232, 0), (1244, 130, 0, 1243, 0), (1251, 130, 0, 1250, 0), (1258, 130, 0, 1257, 0), (1268, 130, 0, 1267, 0), (1275, 130, 0, 1274, 0), (1282, 130, 0, 1281, 0)]
noncomputable def am_mt8 : List am_M := [(⟨"OldFencesLaw", "open", "(LOldFences;II[J)I"⟩, method_17_code, 5, some Jvm.ClassFile.FieldType.int, 4, [(0, 17, 20, 24), (0, 17, 24, 13)]),
  (⟨"OldFencesLaw", "far", "(LOldFences;II[J)I"⟩, method_18_code, 5, some Jvm.ClassFile.FieldType.int, 4, [(0, 10, 13, 24)]),
  (⟨"OldFencesLaw", "meet", "(LOldFences;II[J)I"⟩, method_19_code, 5, some Jvm.ClassFile.FieldType.int, 4, [(0, 17, 20, 24), (0, 17, 24, 13)]),
  (⟨"OldFencesLaw", "halfway", "(LOldFences;II[J)I"⟩, method_20_code, 5, some Jvm.ClassFile.FieldType.int, 4, [(0, 10, 13, 24), (0, 10, 17, 13)]),
  (⟨"OldFencesLaw", "sees", "(LOldFences;II[J)I"⟩, method_21_code, 5, some Jvm.ClassFile.FieldType.int, 4, [(0, 17, 20, 24)]),
  (⟨"OldFencesLaw", "pulls", "(LOldFences;III[J)I"⟩, method_22_code, 6, some Jvm.ClassFile.FieldType.int, 5, [(0, 12, 15, 24), (0, 12, 19, 13)]),
  (⟨"OldFencesLaw", "lowest", "(LOldFences;II[J)I"⟩, method_23_code, 5, some Jvm.ClassFile.FieldType.int, 4, [(0, 10, 13, 24)]),
  (⟨"OldFencesLaw", "closes", "(LOldFences;III[J)I"⟩, method_24_code, 6, some Jvm.ClassFile.FieldType.int, 5, [(0, 12, 15, 24), (0, 12, 19, 13)]),
  (⟨"OldFencesLaw", "lands", "(LOldFences;I[J)I"⟩, method_25_code, 4, some Jvm.ClassFile.FieldType.int, 3, [(0, 9, 12, 13)]),
  (⟨"OldFencesLaw", "wide", "(LOldFences;I[J)I"⟩, method_26_code, 4, some Jvm.ClassFile.FieldType.int, 3, [(0, 9, 12, 13)]),
  (⟨"OldFencesLaw", "land", "(LOldFences;II[J)I"⟩, method_27_code, 5, some Jvm.ClassFile.FieldType.int, 4, [(0, 10, 13, 24), (0, 10, 17, 13)]),
  (⟨"OldFencesLaw", "gaps", "(LOldFences;I[J)I"⟩, method_28_code, 4, some Jvm.ClassFile.FieldType.int, 3, [(0, 9, 12, 13)]),
  (⟨"OldFencesLaw", "all", "(LOldFences;I[J)I"⟩, method_29_code, 4, some Jvm.ClassFile.FieldType.int, 3, [(0, 16, 19, 13)]),
  (⟨"OldFencesLaw", "one", "(LOldFences;II[J)I"⟩, method_30_code, 5, some Jvm.ClassFile.FieldType.int, 4, [(0, 10, 13, 24)]),
  (⟨"OldFencesLaw", "walk", "(LOldFences;III[J)I"⟩, method_31_code, 6, some Jvm.ClassFile.FieldType.int, 5, [(0, 12, 15, 24), (0, 12, 19, 13)]),
  (⟨"OldFencesLaw", "hangs", "(LOldFences;I[J)I"⟩, method_32_code, 4, some Jvm.ClassFile.FieldType.int, 3, [(0, 9, 12, 13)]),
  (⟨"OldFencesLaw", "ends", "(LOldFences;I[J)I"⟩, method_33_code, 4, some Jvm.ClassFile.FieldType.int, 3, [(0, 9, 12, 13)]),
  (⟨"OldFencesLaw", "seen", "(LOldFences;Z[J)I"⟩, method_34_code, 4, some Jvm.ClassFile.FieldType.int, 3, [(0, 9, 12, 13)]),
  (⟨"OldFencesLaw", "ask", "(LOldFences;[J)I"⟩, method_35_code, 3, some Jvm.ClassFile.FieldType.int, 2, [(0, 8, 11, 13)]),
  (⟨"OldFencesLaw", "loses", "(LOldFences;II[J)I"⟩, method_36_code, 5, some Jvm.ClassFile.FieldType.int, 4, [(0, 10, 13, 24)]),
  (⟨"OldFencesLaw", "pairs", "(LOldFences;I[J)I"⟩, method_37_code, 4, some Jvm.ClassFile.FieldType.int, 3, [(0, 9, 12, 24)]),
  (⟨"OldFencesLaw", "rests", "(LOldFences;II[J)I"⟩, method_38_code, 5, some Jvm.ClassFile.FieldType.int, 4, [(0, 10, 13, 24), (0, 10, 17, 13)]),
  (⟨"OldFencesLaw", "odds", "(LOldFences;II[J)I"⟩, method_39_code, 5, some Jvm.ClassFile.FieldType.int, 4, [(0, 10, 13, 24), (0, 10, 17, 13)]),
  (⟨"OldFencesLaw", "ahead", "(LOldFences;II[J)I"⟩, method_40_code, 5, some Jvm.ClassFile.FieldType.int, 4, [(0, 10, 13, 24), (0, 10, 17, 13)]),
  (⟨"OldFencesLaw", "trial", "(LOldFences;IZ[J)I"⟩, method_41_code, 5, some Jvm.ClassFile.FieldType.int, 4, [(0, 10, 13, 13)]),
  (⟨"OldFencesLaw", "span", "(LOldFences;IZ[J)I"⟩, method_42_code, 5, some Jvm.ClassFile.FieldType.int, 4, [(0, 10, 13, 13)]),
  (⟨"OldFencesLaw", "led", "(LOldFences;IZ[J)I"⟩, method_43_code, 5, some Jvm.ClassFile.FieldType.int, 4, [(0, 10, 13, 24)]),
  (⟨"OldFencesLaw", "log", "(LOldFences;II[J)I"⟩, method_44_code, 5, some Jvm.ClassFile.FieldType.int, 4, [(0, 10, 13, 26)]),
  (⟨"OldFencesLaw", "law", "([I)Z"⟩, code, 7, some .boolean, 1, [])]
def am_mx8 : List (Nat × Nat × Nat × Nat × Nat) := [(1289, 130, 0, 1288, 0), (1296, 130, 0, 1295, 0), (1323, 130, 0, 1322, 0), (1344, 130, 0, 1343, 0), (1360, 130, 0, 1359, 0), (1367, 130, 0, 1366, 0), (1378, 130, 0, 1377, 0), (1389, 130, 0, 1388, 0), (1417, 130, 0, 1416, 0), (1424, 130, 0, 1423, 0), (1436, 130, 0, 1435, 0), (1443, 130, 0, 1442, 0), (1450, 130, 0, 1449, 0), (1457, 130, 0, 1456, 0), (1468, 130, 0, 1467, 0), (1483, 130, 0, 1482, 0), (1501, 130, 0, 1500, 0), (1512, 130, 0, 1511, 0), (1536, 130, 0, 1535, 0), (1552, 130, 0, 1551, 0), (1559, 130, 0, 1558, 0), (1593, 130, 0, 1592, 0), (1607, 130, 0, 1606, 0), (1615, 130, 0, 1614, 0), (1627, 130, 0, 1626, 0), (1634, 130, 0, 1633, 0), (1641, 130, 0, 1640, 0), (1660, 130, 0, 1659, 0), (0, 0, 0, 0, 0)]
noncomputable def am_mtl : List am_M := am_mt0 ++ (am_mt1 ++ (am_mt2 ++ (am_mt3 ++ (am_mt4 ++ (am_mt5 ++ (am_mt6 ++ (am_mt7 ++ (am_mt8))))))))
def am_mxl : List (Nat × Nat × Nat × Nat × Nat) := am_mx0 ++ (am_mx1 ++ (am_mx2 ++ (am_mx3 ++ (am_mx4 ++ (am_mx5 ++ (am_mx6 ++ (am_mx7 ++ (am_mx8))))))))
noncomputable def am_mt (m : Nat) : am_M := am_mtl.getD m (⟨"", "", ""⟩, .mk #[], 0, none, 0, [])
/-- of a method: where its code's word stands, its class's, its kind (0 static, 1 an object's, 2 a constructor), where that stands, where that it is selected -/
def am_mx (m : Nat) : Nat × Nat × Nat × Nat × Nat := am_mxl.getD m (0, 0, 9, 0, 0)
def am_has (i : Nat) (w : Jvm.Cond) : Bool := decide (lw_tbl[i]? = some w) && goodWord w
def am_hasT (i : Nat) (w : Jvm.Cond) : Bool := decide (lw_tbl[i]? = some w)
theorem am_has_in {i : Nat} {w : Jvm.Cond} (h : am_has i w = true) : w ∈ am_good := by
  simp only [am_has, Bool.and_eq_true, decide_eq_true_eq] at h
  exact List.mem_filter.mpr ⟨List.mem_of_getElem? h.1, h.2⟩
theorem am_hasT_in {i : Nat} {w : Jvm.Cond} (h : am_hasT i w = true) : w ∈ lw_tbl := by
  simp only [am_hasT, decide_eq_true_eq] at h
  exact List.mem_of_getElem? h
def am_mck (M : am_M) (x : Nat × Nat × Nat × Nat × Nat) : Bool :=
  (am_has x.1 (am_cw M) && am_has x.2.1 (.initialized M.1.cls)) && ((decide (M.1.cls ≠ "java/lang/invoke/MethodHandle") && decide (M.1.cls ≠ "java/lang/invoke/VarHandle")) && (decide ((parseMethodDescriptor M.1.desc).map (fun d => d.parameters.length) = some M.2.2.2.2.1) && (decide (M.2.2.1 ≤ 40) && plainFor M.1))) &&
  (if x.2.2.1 = 0 then am_has x.2.2.2.1 (.static M.1) else (am_has x.2.2.2.1 (.instanceMethod M.1) && decide (M.2.2.2.2.2 = [])) && (if x.2.2.1 = 1 then am_has x.2.2.2.2 (.selects M.1.cls M.1 M.1) else decide (M.1.name = "<init>") && decide (M.2.2.2.1 = none)))
/-- the classes -/
theorem am_uw0 : ∀ w ∈ u_ws "OldFences$County" am_T0 16, w ∈ am_good := fun w hw => by
  have h := goodIn_r (big := lw_tbl) (u_ws "OldFences$County" am_T0 16) [320, 322, 324, 326, 328, 330, 332, 334, 336, 338, 340, 342, 344, 346, 348, 350] (by decide +kernel) (by decide +kernel) w hw
  exact List.mem_filter.mpr ⟨h.1, List.all_eq_true.mp (by decide +kernel : (u_ws "OldFences$County" am_T0 16).all goodWord = true) w hw⟩
theorem am_ci0 : am_CI 0 "OldFences$County" am_T0 16 am_t0 := ⟨rfl, am_uw0, rfl, am_tok0, am_tnm0, by decide +kernel, fun k hk => by
  have h9 : k = 0 ∨ k = 1 ∨ k = 2 ∨ k = 3 ∨ k = 4 ∨ k = 5 ∨ k = 6 ∨ k = 7 ∨ k = 8 ∨ k = 9 ∨ k = 10 ∨ k = 11 ∨ k = 12 ∨ k = 13 ∨ k = 14 ∨ k = 15 := by omega
  rcases h9 with rfl | rfl | rfl | rfl | rfl | rfl | rfl | rfl | rfl | rfl | rfl | rfl | rfl | rfl | rfl | rfl
  all_goals first
    | exact Or.inr ⟨rfl, Or.inl rfl⟩
    | exact Or.inr ⟨rfl, Or.inr rfl⟩
    | exact Or.inl ⟨rfl, fun r => by cases r <;> exact ⟨rfl, rfl⟩, rfl⟩, by decide⟩
theorem am_uw1 : ∀ w ∈ u_ws "OldFences$CountyReader" am_T1 1, w ∈ am_good := fun w hw => by
  have h := goodIn_r (big := lw_tbl) (u_ws "OldFences$CountyReader" am_T1 1) [209] (by decide +kernel) (by decide +kernel) w hw
  exact List.mem_filter.mpr ⟨h.1, List.all_eq_true.mp (by decide +kernel : (u_ws "OldFences$CountyReader" am_T1 1).all goodWord = true) w hw⟩
theorem am_ci1 : am_CI 1 "OldFences$CountyReader" am_T1 1 am_t1 := ⟨rfl, am_uw1, rfl, am_tok1, am_tnm1, by decide +kernel, fun k hk => by
  have h9 : k = 0 := by omega
  rcases h9 with rfl
  all_goals first
    | exact Or.inr ⟨rfl, Or.inl rfl⟩
    | exact Or.inr ⟨rfl, Or.inr rfl⟩
    | exact Or.inl ⟨rfl, fun r => by cases r <;> exact ⟨rfl, rfl⟩, rfl⟩, by decide⟩
theorem am_uw2 : ∀ w ∈ u_ws "OldFences$Log" am_T2 0, w ∈ am_good := fun w hw => by
  have h := goodIn_r (big := lw_tbl) (u_ws "OldFences$Log" am_T2 0) [] (by decide +kernel) (by decide +kernel) w hw
  exact List.mem_filter.mpr ⟨h.1, List.all_eq_true.mp (by decide +kernel : (u_ws "OldFences$Log" am_T2 0).all goodWord = true) w hw⟩
theorem am_ci2 : am_CI 2 "OldFences$Log" am_T2 0 am_t2 := ⟨rfl, am_uw2, rfl, am_tok2, am_tnm2, by decide +kernel, fun k hk => by
  omega, by decide⟩
theorem am_uw3 : ∀ w ∈ u_ws "OldFences$Law" am_T3 6, w ∈ am_good := fun w hw => by
  have h := goodIn_r (big := lw_tbl) (u_ws "OldFences$Law" am_T3 6) [1023, 1025, 1027, 1029, 1031, 1033] (by decide +kernel) (by decide +kernel) w hw
  exact List.mem_filter.mpr ⟨h.1, List.all_eq_true.mp (by decide +kernel : (u_ws "OldFences$Law" am_T3 6).all goodWord = true) w hw⟩
theorem am_ci3 : am_CI 3 "OldFences$Law" am_T3 6 am_t3 := ⟨rfl, am_uw3, rfl, am_tok3, am_tnm3, by decide +kernel, fun k hk => by
  have h9 : k = 0 ∨ k = 1 ∨ k = 2 ∨ k = 3 ∨ k = 4 ∨ k = 5 := by omega
  rcases h9 with rfl | rfl | rfl | rfl | rfl | rfl
  all_goals first
    | exact Or.inr ⟨rfl, Or.inl rfl⟩
    | exact Or.inr ⟨rfl, Or.inr rfl⟩
    | exact Or.inl ⟨rfl, fun r => by cases r <;> exact ⟨rfl, rfl⟩, rfl⟩, by decide⟩
theorem am_uw4 : ∀ w ∈ u_ws "OldFences$LawReader" am_T4 7, w ∈ am_good := fun w hw => by
  have h := goodIn_r (big := lw_tbl) (u_ws "OldFences$LawReader" am_T4 7) [225, 227, 229, 231, 233, 235, 237] (by decide +kernel) (by decide +kernel) w hw
  exact List.mem_filter.mpr ⟨h.1, List.all_eq_true.mp (by decide +kernel : (u_ws "OldFences$LawReader" am_T4 7).all goodWord = true) w hw⟩
theorem am_ci4 : am_CI 4 "OldFences$LawReader" am_T4 7 am_t4 := ⟨rfl, am_uw4, rfl, am_tok4, am_tnm4, by decide +kernel, fun k hk => by
  have h9 : k = 0 ∨ k = 1 ∨ k = 2 ∨ k = 3 ∨ k = 4 ∨ k = 5 ∨ k = 6 := by omega
  rcases h9 with rfl | rfl | rfl | rfl | rfl | rfl | rfl
  all_goals first
    | exact Or.inr ⟨rfl, Or.inl rfl⟩
    | exact Or.inr ⟨rfl, Or.inr rfl⟩
    | exact Or.inl ⟨rfl, fun r => by cases r <;> exact ⟨rfl, rfl⟩, rfl⟩, by decide⟩
theorem am_uw5 : ∀ w ∈ u_ws "OldFences$Log" am_T5 3, w ∈ am_good := fun w hw => by
  have h := goodIn_r (big := lw_tbl) (u_ws "OldFences$Log" am_T5 3) [256, 258, 260] (by decide +kernel) (by decide +kernel) w hw
  exact List.mem_filter.mpr ⟨h.1, List.all_eq_true.mp (by decide +kernel : (u_ws "OldFences$Log" am_T5 3).all goodWord = true) w hw⟩
theorem am_ci5 : am_CI 5 "OldFences$Log" am_T5 3 am_t5 := ⟨rfl, am_uw5, rfl, am_tok5, am_tnm5, by decide +kernel, fun k hk => by
  have h9 : k = 0 ∨ k = 1 ∨ k = 2 := by omega
  rcases h9 with rfl | rfl | rfl
  all_goals first
    | exact Or.inr ⟨rfl, Or.inl rfl⟩
    | exact Or.inr ⟨rfl, Or.inr rfl⟩
    | exact Or.inl ⟨rfl, fun r => by cases r <;> exact ⟨rfl, rfl⟩, rfl⟩, by decide⟩
theorem am_uw6 : ∀ w ∈ u_ws "OldFences$Neighbours" am_T6 7, w ∈ am_good := fun w hw => by
  have h := goodIn_r (big := lw_tbl) (u_ws "OldFences$Neighbours" am_T6 7) [422, 424, 426, 428, 430, 432, 434] (by decide +kernel) (by decide +kernel) w hw
  exact List.mem_filter.mpr ⟨h.1, List.all_eq_true.mp (by decide +kernel : (u_ws "OldFences$Neighbours" am_T6 7).all goodWord = true) w hw⟩
theorem am_ci6 : am_CI 6 "OldFences$Neighbours" am_T6 7 am_t6 := ⟨rfl, am_uw6, rfl, am_tok6, am_tnm6, by decide +kernel, fun k hk => by
  have h9 : k = 0 ∨ k = 1 ∨ k = 2 ∨ k = 3 ∨ k = 4 ∨ k = 5 ∨ k = 6 := by omega
  rcases h9 with rfl | rfl | rfl | rfl | rfl | rfl | rfl
  all_goals first
    | exact Or.inr ⟨rfl, Or.inl rfl⟩
    | exact Or.inr ⟨rfl, Or.inr rfl⟩
    | exact Or.inl ⟨rfl, fun r => by cases r <;> exact ⟨rfl, rfl⟩, rfl⟩, by decide⟩
theorem am_uw7 : ∀ w ∈ u_ws "OldFences$Paths" am_T7 6, w ∈ am_good := fun w hw => by
  have h := goodIn_r (big := lw_tbl) (u_ws "OldFences$Paths" am_T7 6) [394, 396, 398, 400, 402, 404] (by decide +kernel) (by decide +kernel) w hw
  exact List.mem_filter.mpr ⟨h.1, List.all_eq_true.mp (by decide +kernel : (u_ws "OldFences$Paths" am_T7 6).all goodWord = true) w hw⟩
theorem am_ci7 : am_CI 7 "OldFences$Paths" am_T7 6 am_t7 := ⟨rfl, am_uw7, rfl, am_tok7, am_tnm7, by decide +kernel, fun k hk => by
  have h9 : k = 0 ∨ k = 1 ∨ k = 2 ∨ k = 3 ∨ k = 4 ∨ k = 5 := by omega
  rcases h9 with rfl | rfl | rfl | rfl | rfl | rfl
  all_goals first
    | exact Or.inr ⟨rfl, Or.inl rfl⟩
    | exact Or.inr ⟨rfl, Or.inr rfl⟩
    | exact Or.inl ⟨rfl, fun r => by cases r <;> exact ⟨rfl, rfl⟩, rfl⟩, by decide⟩
theorem am_uw8 : ∀ w ∈ u_ws "OldFences$Pieces" am_T8 6, w ∈ am_good := fun w hw => by
  have h := goodIn_r (big := lw_tbl) (u_ws "OldFences$Pieces" am_T8 6) [367, 369, 371, 373, 375, 377] (by decide +kernel) (by decide +kernel) w hw
  exact List.mem_filter.mpr ⟨h.1, List.all_eq_true.mp (by decide +kernel : (u_ws "OldFences$Pieces" am_T8 6).all goodWord = true) w hw⟩
theorem am_ci8 : am_CI 8 "OldFences$Pieces" am_T8 6 am_t8 := ⟨rfl, am_uw8, rfl, am_tok8, am_tnm8, by decide +kernel, fun k hk => by
  have h9 : k = 0 ∨ k = 1 ∨ k = 2 ∨ k = 3 ∨ k = 4 ∨ k = 5 := by omega
  rcases h9 with rfl | rfl | rfl | rfl | rfl | rfl
  all_goals first
    | exact Or.inr ⟨rfl, Or.inl rfl⟩
    | exact Or.inr ⟨rfl, Or.inr rfl⟩
    | exact Or.inl ⟨rfl, fun r => by cases r <;> exact ⟨rfl, rfl⟩, rfl⟩, by decide⟩
theorem am_uw9 : ∀ w ∈ u_ws "OldFences$Sightings" am_T9 3, w ∈ am_good := fun w hw => by
  have h := goodIn_r (big := lw_tbl) (u_ws "OldFences$Sightings" am_T9 3) [447, 449, 451] (by decide +kernel) (by decide +kernel) w hw
  exact List.mem_filter.mpr ⟨h.1, List.all_eq_true.mp (by decide +kernel : (u_ws "OldFences$Sightings" am_T9 3).all goodWord = true) w hw⟩
theorem am_ci9 : am_CI 9 "OldFences$Sightings" am_T9 3 am_t9 := ⟨rfl, am_uw9, rfl, am_tok9, am_tnm9, by decide +kernel, fun k hk => by
  have h9 : k = 0 ∨ k = 1 ∨ k = 2 := by omega
  rcases h9 with rfl | rfl | rfl
  all_goals first
    | exact Or.inr ⟨rfl, Or.inl rfl⟩
    | exact Or.inr ⟨rfl, Or.inr rfl⟩
    | exact Or.inl ⟨rfl, fun r => by cases r <;> exact ⟨rfl, rfl⟩, rfl⟩, by decide⟩
theorem am_uw10 : ∀ w ∈ u_ws "OldFences$Tape" am_T10 7, w ∈ am_good := fun w hw => by
  have h := goodIn_r (big := lw_tbl) (u_ws "OldFences$Tape" am_T10 7) [186, 188, 190, 192, 194, 196, 198] (by decide +kernel) (by decide +kernel) w hw
  exact List.mem_filter.mpr ⟨h.1, List.all_eq_true.mp (by decide +kernel : (u_ws "OldFences$Tape" am_T10 7).all goodWord = true) w hw⟩
theorem am_ci10 : am_CI 10 "OldFences$Tape" am_T10 7 am_t10 := ⟨rfl, am_uw10, rfl, am_tok10, am_tnm10, by decide +kernel, fun k hk => by
  have h9 : k = 0 ∨ k = 1 ∨ k = 2 ∨ k = 3 ∨ k = 4 ∨ k = 5 ∨ k = 6 := by omega
  rcases h9 with rfl | rfl | rfl | rfl | rfl | rfl | rfl
  all_goals first
    | exact Or.inr ⟨rfl, Or.inl rfl⟩
    | exact Or.inr ⟨rfl, Or.inr rfl⟩
    | exact Or.inl ⟨rfl, fun r => by cases r <;> exact ⟨rfl, rfl⟩, rfl⟩, by decide⟩
theorem am_uw11 : ∀ w ∈ u_ws "OldFences" am_T11 14, w ∈ am_good := fun w hw => by
  have h := goodIn_r (big := lw_tbl) (u_ws "OldFences" am_T11 14) [468, 470, 472, 474, 476, 478, 480, 482, 484, 486, 488, 490, 492, 494] (by decide +kernel) (by decide +kernel) w hw
  exact List.mem_filter.mpr ⟨h.1, List.all_eq_true.mp (by decide +kernel : (u_ws "OldFences" am_T11 14).all goodWord = true) w hw⟩
theorem am_ci11 : am_CI 11 "OldFences" am_T11 14 am_t11 := ⟨rfl, am_uw11, rfl, am_tok11, am_tnm11, by decide +kernel, fun k hk => by
  have h9 : k = 0 ∨ k = 1 ∨ k = 2 ∨ k = 3 ∨ k = 4 ∨ k = 5 ∨ k = 6 ∨ k = 7 ∨ k = 8 ∨ k = 9 ∨ k = 10 ∨ k = 11 ∨ k = 12 ∨ k = 13 := by omega
  rcases h9 with rfl | rfl | rfl | rfl | rfl | rfl | rfl | rfl | rfl | rfl | rfl | rfl | rfl | rfl
  all_goals first
    | exact Or.inr ⟨rfl, Or.inl rfl⟩
    | exact Or.inr ⟨rfl, Or.inr rfl⟩
    | exact Or.inl ⟨rfl, fun r => by cases r <;> exact ⟨rfl, rfl⟩, rfl⟩, by decide⟩
theorem am_uw12 : ∀ w ∈ u_ws "OldFencesModel" am_T12 31, w ∈ am_good := fun w hw => by
  have h := goodIn_r (big := lw_tbl) (u_ws "OldFencesModel" am_T12 31) [1707, 1709, 1711, 1713, 1715, 1717, 1719, 1721, 1723, 1725, 1727, 1729, 1731, 1733, 1735, 1737, 1739, 1741, 1743, 1745, 1747, 1749, 1751, 1753, 1755, 1757, 1759, 1761, 1763, 1765, 1767] (by decide +kernel) (by decide +kernel) w hw
  exact List.mem_filter.mpr ⟨h.1, List.all_eq_true.mp (by decide +kernel : (u_ws "OldFencesModel" am_T12 31).all goodWord = true) w hw⟩
theorem am_ci12 : am_CI 12 "OldFencesModel" am_T12 31 am_t12 := ⟨rfl, am_uw12, rfl, am_tok12, am_tnm12, by decide +kernel, fun k hk => by
  have h9 : k = 0 ∨ k = 1 ∨ k = 2 ∨ k = 3 ∨ k = 4 ∨ k = 5 ∨ k = 6 ∨ k = 7 ∨ k = 8 ∨ k = 9 ∨ k = 10 ∨ k = 11 ∨ k = 12 ∨ k = 13 ∨ k = 14 ∨ k = 15 ∨ k = 16 ∨ k = 17 ∨ k = 18 ∨ k = 19 ∨ k = 20 ∨ k = 21 ∨ k = 22 ∨ k = 23 ∨ k = 24 ∨ k = 25 ∨ k = 26 ∨ k = 27 ∨ k = 28 ∨ k = 29 ∨ k = 30 := by omega
  rcases h9 with rfl | rfl | rfl | rfl | rfl | rfl | rfl | rfl | rfl | rfl | rfl | rfl | rfl | rfl | rfl | rfl | rfl | rfl | rfl | rfl | rfl | rfl | rfl | rfl | rfl | rfl | rfl | rfl | rfl | rfl | rfl
  all_goals first
    | exact Or.inr ⟨rfl, Or.inl rfl⟩
    | exact Or.inr ⟨rfl, Or.inr rfl⟩
    | exact Or.inl ⟨rfl, fun r => by cases r <;> exact ⟨rfl, rfl⟩, rfl⟩, by decide⟩
def am_insts : List (Nat × Nat) := [(241, 135), (203, 133), (0, 147), (999, 154), (213, 134), (247, 136), (408, 139), (381, 138), (355, 137), (438, 140), (169, 132), (161, 131), (1671, 141)]
def am_clk (ci : Nat) : Bool := match am_cl[ci]? with
  | some (Cn, _, N) => am_has (am_insts.getD ci (0, 0)).1 (.instantiable Cn N) && am_has (am_insts.getD ci (0, 0)).2 (.initialized Cn)
  | none => false
theorem am_ci_all {ci : Nat} {Cn : String} {T : u_T} {N : Nat} (h : am_cl[ci]? = some (Cn, T, N)) : am_CI ci Cn T N (am_ft ci) := by
  have hl : ci < 13 := (List.getElem?_eq_some_iff.mp h).1
  have h9 : ci = 0 ∨ ci = 1 ∨ ci = 2 ∨ ci = 3 ∨ ci = 4 ∨ ci = 5 ∨ ci = 6 ∨ ci = 7 ∨ ci = 8 ∨ ci = 9 ∨ ci = 10 ∨ ci = 11 ∨ ci = 12 := by omega
  rcases h9 with rfl | rfl | rfl | rfl | rfl | rfl | rfl | rfl | rfl | rfl | rfl | rfl | rfl
  · cases h; exact am_ci0
  · cases h; exact am_ci1
  · cases h; exact am_ci2
  · cases h; exact am_ci3
  · cases h; exact am_ci4
  · cases h; exact am_ci5
  · cases h; exact am_ci6
  · cases h; exact am_ci7
  · cases h; exact am_ci8
  · cases h; exact am_ci9
  · cases h; exact am_ci10
  · cases h; exact am_ci11
  · cases h; exact am_ci12
/-- words that stand alone -/
theorem am_w_oi : Cond.instanceMethod Lib.objectInit ∈ am_good := am_has_in (i := 166) (by decide +kernel)
theorem am_w_oc : Cond.code Lib.objectInit ⟨#[0xb1]⟩ 1 none ∈ am_good := am_has_in (i := 167) (by decide +kernel)
theorem am_w_an : Cond.native arraycopyName ∈ am_good := am_has_in (i := 676) (by decide +kernel)
theorem am_w_as : Cond.static arraycopyName ∈ am_good := am_has_in (i := 675) (by decide +kernel)
theorem am_w_ai : Cond.initialized "java/lang/System" ∈ am_good := am_has_in (i := 142) (by decide +kernel)
theorem am_w_c1 : Cond.sameMethod "[I" "java/lang/Object" "clone" "()Ljava/lang/Object;" ∈ am_good := am_has_in (i := 1004) (by decide +kernel)
theorem am_w_c2 : Cond.native ⟨"java/lang/Object", "clone", "()Ljava/lang/Object;"⟩ ∈ am_good := am_has_in (i := 1005) (by decide +kernel)
theorem am_w_c3 : Cond.instanceMethod ⟨"java/lang/Object", "clone", "()Ljava/lang/Object;"⟩ ∈ am_good := am_has_in (i := 1006) (by decide +kernel)
theorem am_w_c4 : Cond.selects "[I" ⟨"[I", "clone", "()Ljava/lang/Object;"⟩ ⟨"java/lang/Object", "clone", "()Ljava/lang/Object;"⟩ ∈ am_good := am_has_in (i := 1007) (by decide +kernel)
theorem am_w_c5 : Cond.castable "[I" "java/lang/Cloneable" ∈ lw_tbl := am_hasT_in (i := 1008) (by decide +kernel)
theorem am_w_ar_int : Cond.arrayClass .int ∈ am_good := am_has_in (i := 201) (by decide +kernel)
theorem am_w_ar_boolean : Cond.arrayClass .boolean ∈ am_good := am_has_in (i := 263) (by decide +kernel)
theorem am_w_ar_byte : Cond.arrayClass .byte ∈ am_good := am_has_in (i := 927) (by decide +kernel)
theorem am_w_ar_long : Cond.arrayClass .long ∈ am_good := am_has_in (i := 2458) (by decide +kernel)
theorem am_w_cast : am_cst := by
  intro e he
  have h9 : e = 1 ∨ e = 2 ∨ e = 3 ∨ e = 4 ∨ e = 5 := by omega
  rcases h9 with rfl | rfl | rfl | rfl | rfl
  · exact am_hasT_in (i := 864) (by decide +kernel)
  · exact am_hasT_in (i := 930) (by decide +kernel)
  · exact am_hasT_in (i := 1050) (by decide +kernel)
  · exact am_hasT_in (i := 1065) (by decide +kernel)
  · exact am_hasT_in (i := 1216) (by decide +kernel)
theorem am_w_xini : ∀ E, 1 ≤ E ∧ E ≤ 5 → Cond.initialized (am_xn E) ∈ am_good := by
  intro e he
  have h9 : e = 1 ∨ e = 2 ∨ e = 3 ∨ e = 4 ∨ e = 5 := by omega
  rcases h9 with rfl | rfl | rfl | rfl | rfl
  · exact am_has_in (i := 152) (by decide +kernel)
  · exact am_has_in (i := 153) (by decide +kernel)
  · exact am_has_in (i := 156) (by decide +kernel)
  · exact am_has_in (i := 157) (by decide +kernel)
  · exact am_has_in (i := 158) (by decide +kernel)
theorem am_thr_in {ws : List Jvm.Cond} (h : ws.all (fun w => decide (w ∈ lw_tbl) && (goodWord w || am_xw w)) = true) : ∀ w ∈ ws, w ∈ am_good ∨ (w ∈ lw_tbl ∧ am_xw w = true) := by
  intro w hw
  have h1 := List.all_eq_true.mp h w hw
  simp only [Bool.and_eq_true, Bool.or_eq_true, decide_eq_true_eq] at h1
  rcases h1.2 with h2 | h2
  · exact Or.inl (List.mem_filter.mpr ⟨h1.1, h2⟩)
  · exact Or.inr ⟨h1.1, h2⟩
theorem am_thr_ok : ∀ E ic, (E, ic) ∈ ([(1, 114), (2, 120), (3, 386), (4, 145), (5, 249)] : List (Nat × Nat)) → ∀ w ∈ vx_at0 "OldFences" ic (am_xn E) am_xs, w ∈ am_good ∨ (w ∈ lw_tbl ∧ am_xw w = true) := by
  intro E ic h
  simp only [List.mem_cons, List.not_mem_nil, or_false, Prod.mk.injEq] at h
  rcases h with ⟨rfl, rfl⟩ | ⟨rfl, rfl⟩ | ⟨rfl, rfl⟩ | ⟨rfl, rfl⟩ | ⟨rfl, rfl⟩
  all_goals exact am_thr_in (by decide +kernel)
