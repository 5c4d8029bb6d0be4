set_option maxRecDepth 20000 in
theorem wsL_law_in0 : ∀ w ∈ wsL_law0, w ∈ lw_tbl := fun w h => (goodIn_p wsL_law0 [86, 89, 95, 1300, 1307, 465, 482, 486, 359, 407, 489, 494, 498, 202, 164, 160, 180, 502, 1351, 1355, 1358, 1361, 1365, 1369, 1372, 1375, 1379, 1383, 512, 516, 222, 176, 226, 1387, 523, 1391, 530, 1395, 537, 541, 545, 549, 1399, 1403, 556, 1407, 563, 567, 572, 206, 213, 576, 1411, 1415, 1418, 584, 588, 1422, 595, 599, 1426, 606, 610, 1430, 617, 172, 621, 1434, 1437, 1441, 1445, 1449, 1453, 1457, 628, 633, 1461, 1464, 640, 645, 1468, 654, 658, 395, 1472, 1476, 682, 1480, 1484, 690, 693, 698, 1488, 1492, 1496, 705, 709, 384, 322, 326, 715, 399, 1500, 1504, 722, 726, 1508, 733, 737, 765, 1512, 1516, 1520, 773, 1524, 780, 784, 318, 194, 1528, 792, 418, 184, 1532, 1536, 800, 427, 168, 156, 1540, 807, 811, 1544, 818, 1548, 825, 1552, 832, 1556, 839, 1560, 846, 850, 855, 339, 1564, 879, 1568, 886, 890, 334, 895, 210, 347, 1576, 906, 343, 1580, 914, 918, 923, 1584, 931, 1588, 938, 1592, 144, 1596, 945, 1600, 952, 1604, 959, 1608, 966, 1612, 379, 246, 234, 391, 1616, 1620, 1624, 1628, 1632, 1636, 404, 198, 1640, 1644, 1648, 981, 1652, 1656, 989, 1660, 997, 1001, 1006, 1009, 1015, 1018, 1036, 1039, 1043, 1047, 1050, 1055, 1059, 1073, 1076, 1080, 1083, 1086, 1089, 1092, 1095, 1100, 1103, 1112, 1115, 1118, 1121, 1126, 1129, 1133, 1136, 1139, 1142, 1145, 1149, 1153, 1158, 1162, 1167, 1173, 1176, 1179, 1182, 1189, 1192, 1198, 1203, 1206, 1212, 1218, 1220, 1224, 1227, 1230, 1241, 1244, 1247, 1251, 1664, 1669, 1674, 1677, 1681, 1269, 217, 1693, 1697, 1276, 1701, 423, 330, 431, 435, 439, 443, 1705, 1709, 449, 1713, 1291, 1717, 243, 1721, 1725, 148, 152, 189, 230, 1729, 1733, 1737, 238, 350, 355, 414, 453, 456, 459, 1741, 1745] (by decide +kernel) (by decide +kernel) w h).1
theorem wsL_law_x0 : ∀ w ∈ (vx_atS RX3 313 "java/lang/IndexOutOfBoundsException" ["java/lang/RuntimeException", "java/lang/Exception"]).filter goodWord, w ∈ lw_tbl := by decide +kernel
theorem wsL_law_x1 : ∀ w ∈ (vx_atS RX3 90 "java/lang/IllegalArgumentException" ["java/lang/RuntimeException", "java/lang/Exception"]).filter goodWord, w ∈ lw_tbl := by decide +kernel
theorem wsL_law_x2 : ∀ w ∈ (vx_atS RX3 108 "java/lang/IllegalStateException" ["java/lang/RuntimeException", "java/lang/Exception"]).filter goodWord, w ∈ lw_tbl := by decide +kernel
theorem wsL_law_in : ∀ w ∈ wsL_law, w ∈ lw_tbl := fun w h => (List.mem_append.mp h).elim (fun h => (List.mem_append.mp h).elim (fun h => (List.mem_append.mp h).elim (fun h => wsL_law_in0 w h) (fun h => wsL_law_x0 w h)) (fun h => wsL_law_x1 w h)) (fun h => wsL_law_x2 w h)
theorem inX0 : ∀ w ∈ wsX00, w ∈ lw_tbl := fun w h => wsL_law_in w (inlX0 w h)
theorem inX1 : ∀ w ∈ wsX10, w ∈ lw_tbl := fun w h => wsL_law_in w (inlX1 w h)
theorem inX2 : ∀ w ∈ wsX20, w ∈ lw_tbl := fun w h => wsL_law_in w (inlX2 w h)
theorem inX3 : ∀ w ∈ wsX30, w ∈ lw_tbl := fun w h => wsL_law_in w (inlX3 w h)
theorem inX4 : ∀ w ∈ wsX40, w ∈ lw_tbl := fun w h => wsL_law_in w (inlX4 w h)
theorem inX5 : ∀ w ∈ wsX50, w ∈ lw_tbl := fun w h => wsL_law_in w (inlX5 w h)
theorem inJ5 : ∀ w ∈ wsJ50, w ∈ lw_tbl := by decide +kernel
theorem inJx8e188 : ∀ w ∈ wsJx8e1880, w ∈ lw_tbl := by decide +kernel
theorem inJ6 : ∀ w ∈ wsJ60, w ∈ lw_tbl := by decide +kernel
theorem inJ9 : ∀ w ∈ wsJ90, w ∈ lw_tbl := by decide +kernel
theorem inJ0 : ∀ w ∈ wsJ00, w ∈ lw_tbl := fun w h => wsL_law_in w (inlJ0 w h)
theorem inJ4 : ∀ w ∈ wsJ40, w ∈ lw_tbl := fun w h => wsL_law_in w (inlJ4 w h)
theorem inJ1 : ∀ w ∈ wsJ10, w ∈ lw_tbl := by decide +kernel
theorem inJ2 : ∀ w ∈ wsJ20, w ∈ lw_tbl := by decide +kernel
theorem inJ10 : ∀ w ∈ wsJ100, w ∈ lw_tbl := by decide +kernel
theorem inJ7 : ∀ w ∈ wsJ70, w ∈ lw_tbl := by decide +kernel
theorem inJ8 : ∀ w ∈ wsJ80, w ∈ lw_tbl := by decide +kernel
theorem inJ3 : ∀ w ∈ wsJ30, w ∈ lw_tbl := by decide +kernel
