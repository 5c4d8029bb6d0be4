set_option maxRecDepth 20000 in
theorem gL_law_X5_get : GoodIn wsL_law (wsV RL 312 RX5 yX5_get wsX5_get) := goodIn_app (goodIn_of _ (by decide +kernel)) ggL_law_X5_get
set_option maxRecDepth 20000 in
theorem ggL_law_L_getOr : GoodIn wsL_law wsL_getOr := goodIn_ca (goodIn_ca (goodIn_r _ [873, 56, 57, 874, 875, 876, 2, 877, 66, 67, 68, 69, 70, 71, 16, 72, 73, 74, 75, 76, 77, 78, 79, 161, 162, 163, 18, 164, 165, 166, 167, 168, 89, 90, 91, 92, 93, 94, 95, 96, 31, 97, 98, 99, 100, 101, 29, 169, 170, 171, 172, 102, 103, 104, 105, 173, 174, 175, 176, 30, 177, 1481, 1482, 1462, 1463, 1464, 1465, 1466, 1467, 1483, 1484, 1485, 1486, 1487, 1488, 1489] (by decide +kernel) (by decide +kernel)) (goodIn_sub (fun _ h => List.mem_append_left _ (List.mem_append_left _ (List.mem_append_right _ h))) (by decide +kernel))) (goodIn_sub (fun _ h => List.mem_append_left _ (List.mem_append_right _ h)) (by decide +kernel))
set_option maxRecDepth 20000 in
theorem gL_law_L_getOr : GoodIn wsL_law (va_wsS RL 313 yL_getOr wsL_getOr) := goodIn_app (goodIn_of _ (by decide +kernel)) ggL_law_L_getOr
set_option maxRecDepth 20000 in
theorem ggL_law_X5_getOr : GoodIn wsL_law wsX5_getOr := goodIn_r _ [881, 37, 119, 120, 121, 5, 122, 123, 124, 125, 126, 127, 128, 129, 130, 131, 132, 133, 134, 135, 136, 137, 138, 139, 140, 141, 142, 143, 1468, 1469, 1470, 1471, 1472, 1473, 1474, 1475, 1476, 1477, 1478, 1479, 1480] (by decide +kernel) (by decide +kernel)
set_option maxRecDepth 20000 in
theorem gL_law_X5_getOr : GoodIn wsL_law (wsV RL 315 RX5 yX5_getOr wsX5_getOr) := goodIn_app (goodIn_of _ (by decide +kernel)) ggL_law_X5_getOr
set_option maxRecDepth 20000 in
theorem ggL_law_L_has : GoodIn wsL_law wsL_has := goodIn_ca (goodIn_ca (goodIn_r _ [884, 56, 57, 885, 886, 887, 2, 888, 66, 67, 68, 69, 70, 71, 16, 72, 73, 74, 75, 76, 161, 162, 163, 18, 164, 165, 166, 167, 168, 89, 90, 91, 92, 93, 94, 95, 96, 31, 97, 98, 99, 100, 101, 29, 169, 170, 171, 172, 102, 103, 104, 105, 173, 174, 175, 176, 30, 1481, 1482, 1462, 1463, 1464, 1465, 1466, 1467, 1483, 1484, 1485, 1486, 1487, 1488, 1489] (by decide +kernel) (by decide +kernel)) (goodIn_sub (fun _ h => List.mem_append_left _ (List.mem_append_left _ (List.mem_append_right _ h))) (by decide +kernel))) (goodIn_sub (fun _ h => List.mem_append_left _ (List.mem_append_right _ h)) (by decide +kernel))
set_option maxRecDepth 20000 in
theorem gL_law_L_has : GoodIn wsL_law (va_wsS RL 316 yL_has wsL_has) := goodIn_app (goodIn_of _ (by decide +kernel)) ggL_law_L_has
set_option maxRecDepth 20000 in
theorem ggL_law_X5_has : GoodIn wsL_law wsX5_has := goodIn_r _ [892, 37, 227, 228, 229, 5, 230, 123, 124, 125, 126, 127, 128, 129, 130, 131, 132, 133, 134, 135, 136, 137, 138, 139, 140, 1468, 1469, 1470, 1471, 1472, 1473, 1474, 1475, 1476, 1477, 1478, 1479, 1480] (by decide +kernel) (by decide +kernel)
set_option maxRecDepth 20000 in
theorem gL_law_X5_has : GoodIn wsL_law (wsV RL 318 RX5 yX5_has wsX5_has) := goodIn_app (goodIn_of _ (by decide +kernel)) ggL_law_X5_has
set_option maxRecDepth 20000 in
theorem ggL_law_L_hasValue : GoodIn wsL_law wsL_hasValue := goodIn_ca (goodIn_ca (goodIn_r _ [895, 56, 57, 896, 897, 898, 2, 899, 66, 67, 68, 69, 70, 71, 16, 77, 78, 79, 75, 76, 416, 417, 418, 18, 419, 101, 30, 1481, 1482, 1462, 1463, 1464, 1465, 1466, 1467, 1483, 1484, 1485, 1486, 1487, 1488, 1489] (by decide +kernel) (by decide +kernel)) (goodIn_sub (fun _ h => List.mem_append_left _ (List.mem_append_left _ (List.mem_append_right _ h))) (by decide +kernel))) (goodIn_sub (fun _ h => List.mem_append_left _ (List.mem_append_right _ h)) (by decide +kernel))
set_option maxRecDepth 20000 in
theorem gL_law_L_hasValue : GoodIn wsL_law (va_wsS RL 319 yL_hasValue wsL_hasValue) := goodIn_app (goodIn_of _ (by decide +kernel)) ggL_law_L_hasValue
set_option maxRecDepth 20000 in
theorem ggL_law_X5_hasValue : GoodIn wsL_law wsX5_hasValue := goodIn_r _ [903, 123, 124, 5, 125, 126, 127, 128, 129, 130, 131, 132, 133, 134, 135, 136, 137, 141, 142, 143, 424, 425, 426, 427, 37, 383, 384, 385, 1468, 1469, 1470, 1471, 1472, 1473, 1474, 1475, 1476, 1477, 1478, 1479, 1480] (by decide +kernel) (by decide +kernel)
set_option maxRecDepth 20000 in
theorem gL_law_X5_hasValue : GoodIn wsL_law (wsV RL 321 RX5 yX5_hasValue wsX5_hasValue) := goodIn_app (goodIn_of _ (by decide +kernel)) ggL_law_X5_hasValue
set_option maxRecDepth 20000 in
theorem ggL_law_L_ofBook : GoodIn wsL_law wsL_ofBook := goodIn_ca (goodIn_ca (goodIn_r _ [906, 56, 57, 907, 908, 909, 2, 910, 66, 67, 68, 69, 70, 71, 16, 911, 912, 913, 75, 76, 333, 334, 335, 18, 336, 101, 914, 484, 485, 486, 31, 833, 170, 171, 172, 29, 102, 103, 104, 105, 834, 174, 175, 176, 30, 915, 916, 917, 918, 919, 920, 921, 922, 923, 417, 418, 419, 504, 505, 506, 507, 20, 508, 495, 496, 497, 498, 499, 1481, 1482, 1462, 1463, 1464, 1465, 1466, 1467, 1483, 1484, 1485, 1486, 1487, 1488, 1489, 1495, 1496, 1497, 1498, 1499, 1500, 1501] (by decide +kernel) (by decide +kernel)) (goodIn_sub (fun _ h => List.mem_append_left _ (List.mem_append_left _ (List.mem_append_right _ h))) (by decide +kernel))) (goodIn_sub (fun _ h => List.mem_append_left _ (List.mem_append_right _ h)) (by decide +kernel))
set_option maxRecDepth 20000 in
theorem gL_law_L_ofBook : GoodIn wsL_law (va_wsS RL 322 yL_ofBook wsL_ofBook) := goodIn_app (goodIn_of _ (by decide +kernel)) ggL_law_L_ofBook
set_option maxRecDepth 20000 in
theorem ggL_law_X5_ofBook : GoodIn wsL_law wsX5_ofBook := goodIn_r _ [927, 123, 124, 5, 125, 126, 127, 128, 129, 130, 131, 132, 133, 134, 135, 136, 137, 928, 929, 930, 931, 38, 345, 346, 347, 28, 467, 468, 469, 470, 356, 357, 358, 359, 37, 360, 361, 362, 363, 364, 365, 366, 367, 39, 383, 384, 385, 348, 349, 350, 351, 352, 353, 354, 355, 932, 933, 934, 935, 936, 937, 938, 939, 940, 941, 942, 943, 944, 945, 946, 947, 41, 1468, 1469, 1470, 1471, 1472, 1473, 1474, 1475, 1476, 1477, 1478, 1479, 1480] (by decide +kernel) (by decide +kernel)
set_option maxRecDepth 20000 in
theorem gL_law_X5_ofBook : GoodIn wsL_law (wsV RL 324 RX5 yX5_ofBook wsX5_ofBook) := goodIn_app (goodIn_of _ (by decide +kernel)) ggL_law_X5_ofBook
set_option maxRecDepth 20000 in
theorem ggL_law_L_near : GoodIn wsL_law wsL_near := goodIn_ca (goodIn_ca (goodIn_r _ [950, 56, 57, 951, 952, 953, 2, 954, 66, 67, 68, 69, 70, 71, 16, 72, 73, 74, 75, 76, 911, 912, 913, 333, 334, 335, 18, 336, 101, 955, 956, 957, 958, 258, 259, 260, 261, 262, 263, 264, 89, 90, 91, 92, 93, 94, 95, 96, 31, 97, 98, 99, 100, 29, 169, 170, 171, 172, 102, 103, 104, 105, 959, 778, 779, 780, 177, 166, 167, 168, 173, 174, 175, 176, 30, 1481, 1482, 1462, 1463, 1464, 1465, 1466, 1467, 1483, 1484, 1485, 1486, 1487, 1488, 1489] (by decide +kernel) (by decide +kernel)) (goodIn_sub (fun _ h => List.mem_append_left _ (List.mem_append_left _ (List.mem_append_right _ h))) (by decide +kernel))) (goodIn_sub (fun _ h => List.mem_append_left _ (List.mem_append_right _ h)) (by decide +kernel))
set_option maxRecDepth 20000 in
theorem gL_law_L_near : GoodIn wsL_law (va_wsS RL 325 yL_near wsL_near) := goodIn_app (goodIn_of _ (by decide +kernel)) ggL_law_L_near
set_option maxRecDepth 20000 in
theorem ggL_law_X5_near : GoodIn wsL_law wsX5_near := goodIn_r _ [963, 227, 228, 229, 5, 230, 123, 124, 125, 126, 127, 128, 129, 130, 131, 132, 133, 134, 135, 136, 137, 138, 139, 140, 964, 965, 966, 967, 345, 346, 347, 28, 968, 969, 970, 971, 364, 365, 366, 367, 39, 38, 352, 353, 354, 355, 356, 357, 358, 359, 37, 360, 361, 362, 363, 932, 933, 934, 935, 1468, 1469, 1470, 1471, 1472, 1473, 1474, 1475, 1476, 1477, 1478, 1479, 1480] (by decide +kernel) (by decide +kernel)
set_option maxRecDepth 20000 in
theorem gL_law_X5_near : GoodIn wsL_law (wsV RL 327 RX5 yX5_near wsX5_near) := goodIn_app (goodIn_of _ (by decide +kernel)) ggL_law_X5_near
set_option maxRecDepth 20000 in
theorem ggL_law_L_place : GoodIn wsL_law wsL_place := goodIn_ca (goodIn_ca (goodIn_r _ [974, 56, 57, 975, 976, 977, 2, 978, 66, 67, 68, 69, 70, 71, 16, 72, 73, 74, 75, 76, 979, 90, 91, 18, 92, 93, 94, 95, 96, 31, 97, 98, 99, 100, 101, 29, 1481, 1482, 1462, 1463, 1464, 1465, 1466, 1467, 1483, 1484, 1485, 1486, 1487, 1488, 1489] (by decide +kernel) (by decide +kernel)) (goodIn_sub (fun _ h => List.mem_append_left _ (List.mem_append_left _ (List.mem_append_right _ h))) (by decide +kernel))) (goodIn_sub (fun _ h => List.mem_append_left _ (List.mem_append_right _ h)) (by decide +kernel))
set_option maxRecDepth 20000 in
theorem gL_law_L_place : GoodIn wsL_law (va_wsS RL 328 yL_place wsL_place) := goodIn_app (goodIn_of _ (by decide +kernel)) ggL_law_L_place
set_option maxRecDepth 20000 in
theorem ggL_law_X5_place : GoodIn wsL_law wsX5_place := goodIn_r _ [983, 227, 228, 229, 5, 230, 123, 124, 125, 126, 127, 128, 129, 130, 131, 132, 133, 134, 135, 136, 137, 138, 139, 140, 984, 985, 986, 987, 345, 346, 347, 28, 356, 357, 358, 359, 37, 360, 361, 362, 363, 364, 365, 366, 367, 39, 38, 383, 384, 385, 1468, 1469, 1470, 1471, 1472, 1473, 1474, 1475, 1476, 1477, 1478, 1479, 1480] (by decide +kernel) (by decide +kernel)
set_option maxRecDepth 20000 in
theorem gL_law_X5_place : GoodIn wsL_law (wsV RL 330 RX5 yX5_place wsX5_place) := goodIn_app (goodIn_of _ (by decide +kernel)) ggL_law_X5_place
set_option maxRecDepth 20000 in
theorem ggL_law_L_at : GoodIn wsL_law wsL_at := goodIn_ca (goodIn_ca (goodIn_r _ [990, 56, 57, 991, 992, 993, 2, 994, 75, 76, 66, 67, 68, 69, 70, 71, 16, 833, 170, 171, 18, 172, 29, 102, 103, 104, 105, 101, 1481, 1482, 1462, 1463, 1464, 1465, 1466, 1467, 1483, 1484, 1485, 1486, 1487, 1488, 1489] (by decide +kernel) (by decide +kernel)) (goodIn_sub (fun _ h => List.mem_append_left _ (List.mem_append_right _ h)) (by decide +kernel))) (goodIn_sub (fun _ h => List.mem_append_left _ (List.mem_append_left _ (List.mem_append_right _ h))) (by decide +kernel))
set_option maxRecDepth 20000 in
theorem gL_law_L_at : GoodIn wsL_law (va_wsS RL 331 yL_at wsL_at) := goodIn_app (goodIn_of _ (by decide +kernel)) ggL_law_L_at
set_option maxRecDepth 20000 in
theorem ggL_law_X5_at : GoodIn wsL_law wsX5_at := goodIn_r _ [998, 37, 123, 124, 5, 125, 126, 127, 128, 129, 130, 131, 132, 133, 134, 135, 136, 137, 984, 985, 986, 987, 345, 346, 347, 28, 356, 357, 358, 359, 360, 361, 362, 363, 364, 365, 366, 367, 39, 38, 383, 384, 385, 1468, 1469, 1470, 1471, 1472, 1473, 1474, 1475, 1476, 1477, 1478, 1479, 1480] (by decide +kernel) (by decide +kernel)
set_option maxRecDepth 20000 in
theorem gL_law_X5_at : GoodIn wsL_law (wsV RL 333 RX5 yX5_at wsX5_at) := goodIn_app (goodIn_of _ (by decide +kernel)) ggL_law_X5_at
set_option maxRecDepth 20000 in
theorem ggL_law_L_same : GoodIn wsL_law wsL_same := goodIn_ca (goodIn_r _ [1285, 56, 1286, 1287, 1288, 2, 1289, 66, 67, 68, 69, 70, 71, 16, 1290, 1291, 1292, 18, 1293, 101, 29, 30, 458, 334, 335, 336, 165, 166, 167, 168, 89, 90, 91, 92, 93, 94, 95, 96, 31, 97, 98, 99, 100, 169, 170, 171, 172, 102, 103, 104, 105, 173, 174, 175, 176, 1481, 1482, 1462, 1463, 1464, 1465, 1466, 1467, 1483, 1484, 1485, 1486, 1487, 1488, 1489] (by decide +kernel) (by decide +kernel)) (goodIn_sub (fun _ h => List.mem_append_left _ (List.mem_append_left _ (List.mem_append_right _ h))) (by decide +kernel))
set_option maxRecDepth 20000 in
theorem gL_law_L_same : GoodIn wsL_law (va_wsS RL 337 yL_same wsL_same) := goodIn_app (goodIn_of _ (by decide +kernel)) ggL_law_L_same
set_option maxRecDepth 20000 in
theorem ggL_law_X5_same : GoodIn wsL_law wsX5_same := goodIn_r _ [1297, 123, 124, 5, 125, 126, 127, 128, 129, 130, 131, 132, 133, 134, 135, 136, 137, 1298, 1299, 1300, 1301, 37, 1468, 1469, 1470, 1471, 1472, 1473, 1474, 1475, 1476, 1477, 1478, 1479, 1480] (by decide +kernel) (by decide +kernel)
set_option maxRecDepth 20000 in
theorem gL_law_X5_same : GoodIn wsL_law (wsV RL 339 RX5 yX5_same wsX5_same) := goodIn_app (goodIn_of _ (by decide +kernel)) ggL_law_X5_same
set_option maxRecDepth 20000 in
theorem ggL_law_L_viewGet : GoodIn wsL_law wsL_viewGet := goodIn_ca (goodIn_ca (goodIn_r _ [1304, 56, 57, 1305, 1306, 1307, 2, 1308, 610, 611, 612, 613, 70, 71, 20, 72, 73, 74, 75, 76, 614, 615, 616, 497, 617, 499, 549, 551, 552, 94, 95, 18, 96, 31, 508, 495, 496, 498, 177, 166, 167, 168, 89, 90, 91, 92, 93, 97, 98, 99, 100, 101, 29, 169, 170, 171, 172, 102, 103, 104, 105, 173, 174, 175, 176, 30, 1481, 1482, 1462, 1463, 1464, 1465, 1466, 1467, 1495, 1496, 1497, 1498, 1499, 1500, 1501, 1483, 1484, 1485, 1486, 1487, 1488, 1489] (by decide +kernel) (by decide +kernel)) (goodIn_sub (fun _ h => List.mem_append_left _ (List.mem_append_left _ (List.mem_append_right _ h))) (by decide +kernel))) (goodIn_sub (fun _ h => List.mem_append_left _ (List.mem_append_right _ h)) (by decide +kernel))
set_option maxRecDepth 20000 in
theorem gL_law_L_viewGet : GoodIn wsL_law (va_wsS RL 340 yL_viewGet wsL_viewGet) := goodIn_app (goodIn_of _ (by decide +kernel)) ggL_law_L_viewGet
set_option maxRecDepth 20000 in
theorem ggL_law_X5_viewGet : GoodIn wsL_law wsX5_viewGet := goodIn_r _ [1312, 41, 37, 622, 623, 624, 5, 625, 126, 127, 128, 129, 130, 131, 132, 133, 134, 135, 136, 137, 138, 139, 140, 356, 357, 358, 359, 360, 361, 362, 363, 364, 365, 366, 367, 39, 38, 1468, 1469, 1470, 1471, 1472, 1473, 1474, 1475, 1476, 1477, 1478, 1479, 1480] (by decide +kernel) (by decide +kernel)
set_option maxRecDepth 20000 in
theorem gL_law_X5_viewGet : GoodIn wsL_law (wsV RL 342 RX5 yX5_viewGet wsX5_viewGet) := goodIn_app (goodIn_of _ (by decide +kernel)) ggL_law_X5_viewGet
set_option maxRecDepth 20000 in
theorem ggL_law_L_ofView : GoodIn wsL_law wsL_ofView := goodIn_ca (goodIn_ca (goodIn_r _ [1315, 56, 57, 1316, 1317, 1318, 2, 1319, 610, 611, 612, 613, 70, 71, 20, 911, 912, 913, 75, 76, 633, 634, 635, 497, 636, 637, 638, 639, 640, 499, 551, 641, 98, 99, 18, 100, 101, 29, 93, 94, 95, 96, 31, 642, 643, 644, 645, 549, 508, 495, 496, 498, 1320, 1321, 1322, 1323, 27, 1324, 1325, 1326, 1327, 545, 1328, 1329, 1330, 1331, 547, 1332, 1333, 1334, 1335, 546, 1336, 1337, 1338, 1339, 548, 695, 833, 170, 171, 172, 102, 103, 104, 105, 694, 915, 916, 917, 918, 30, 1481, 1482, 1462, 1463, 1464, 1465, 1466, 1467, 1495, 1496, 1497, 1498, 1499, 1500, 1501, 1483, 1484, 1485, 1486, 1487, 1488, 1489] (by decide +kernel) (by decide +kernel)) (goodIn_sub (fun _ h => List.mem_append_left _ (List.mem_append_left _ (List.mem_append_right _ h))) (by decide +kernel))) (goodIn_sub (fun _ h => List.mem_append_left _ (List.mem_append_right _ h)) (by decide +kernel))
set_option maxRecDepth 20000 in
theorem gL_law_L_ofView : GoodIn wsL_law (va_wsS RL 343 yL_ofView wsL_ofView) := goodIn_app (goodIn_of _ (by decide +kernel)) ggL_law_L_ofView
set_option maxRecDepth 20000 in
theorem ggL_law_X5_ofView : GoodIn wsL_law wsX5_ofView := goodIn_r _ [1343, 622, 623, 624, 5, 625, 41, 126, 127, 128, 129, 130, 131, 132, 133, 134, 135, 136, 137, 1344, 1345, 1346, 1347, 467, 468, 469, 470, 356, 357, 358, 359, 37, 360, 361, 362, 363, 364, 365, 366, 367, 39, 38, 383, 384, 385, 348, 349, 350, 351, 352, 353, 354, 355, 936, 937, 938, 939, 1468, 1469, 1470, 1471, 1472, 1473, 1474, 1475, 1476, 1477, 1478, 1479, 1480] (by decide +kernel) (by decide +kernel)
set_option maxRecDepth 20000 in
theorem gL_law_X5_ofView : GoodIn wsL_law (wsV RL 345 RX5 yX5_ofView wsX5_ofView) := goodIn_app (goodIn_of _ (by decide +kernel)) ggL_law_X5_ofView
set_option maxRecDepth 20000 in
theorem ggL_law_L_viewNear : GoodIn wsL_law wsL_viewNear := goodIn_ca (goodIn_ca (goodIn_r _ [1350, 56, 57, 1351, 1352, 1353, 2, 1354, 610, 611, 612, 613, 70, 71, 20, 72, 73, 74, 75, 76, 911, 912, 913, 508, 495, 496, 497, 498, 499, 695, 643, 644, 645, 549, 641, 98, 99, 18, 100, 101, 29, 93, 94, 95, 96, 31, 694, 638, 639, 640, 551, 955, 956, 957, 958, 258, 259, 260, 261, 262, 263, 264, 89, 90, 91, 92, 97, 169, 170, 171, 172, 102, 103, 104, 105, 959, 778, 779, 780, 1481, 1482, 1462, 1463, 1464, 1465, 1466, 1467, 1495, 1496, 1497, 1498, 1499, 1500, 1501, 1483, 1484, 1485, 1486, 1487, 1488, 1489] (by decide +kernel) (by decide +kernel)) (goodIn_sub (fun _ h => List.mem_append_left _ (List.mem_append_left _ (List.mem_append_right _ h))) (by decide +kernel))) (goodIn_sub (fun _ h => List.mem_append_left _ (List.mem_append_right _ h)) (by decide +kernel))
set_option maxRecDepth 20000 in
theorem gL_law_L_viewNear : GoodIn wsL_law (va_wsS RL 346 yL_viewNear wsL_viewNear) := goodIn_app (goodIn_of _ (by decide +kernel)) ggL_law_L_viewNear
set_option maxRecDepth 20000 in
theorem ggL_law_X5_viewNear : GoodIn wsL_law wsX5_viewNear := goodIn_r _ [1358, 41, 622, 623, 624, 5, 625, 126, 127, 128, 129, 130, 131, 132, 133, 134, 135, 136, 137, 138, 139, 140, 968, 969, 970, 971, 364, 365, 366, 367, 39, 38, 352, 353, 354, 355, 356, 357, 358, 359, 37, 360, 361, 362, 363, 1468, 1469, 1470, 1471, 1472, 1473, 1474, 1475, 1476, 1477, 1478, 1479, 1480] (by decide +kernel) (by decide +kernel)
set_option maxRecDepth 20000 in
theorem gL_law_X5_viewNear : GoodIn wsL_law (wsV RL 348 RX5 yX5_viewNear wsX5_viewNear) := goodIn_app (goodIn_of _ (by decide +kernel)) ggL_law_X5_viewNear
set_option maxRecDepth 20000 in
theorem ggL_law_L_ledger : GoodIn wsL_law wsL_ledger := goodIn_ca (goodIn_r _ [1372, 57, 1373, 1374, 1375, 2, 1376, 478, 21, 22, 854, 911, 912, 913, 75, 76, 591, 592, 593, 594, 20, 488, 489, 490, 491, 492, 493, 494, 495, 496, 497, 498, 499, 1320, 1321, 1322, 18, 1323, 27, 765, 766, 767, 768, 729, 769, 730, 731, 732, 733, 114, 798, 799, 800, 801, 774, 775, 728, 783, 784, 785, 786, 84, 1481, 1482, 1462, 1463, 1464, 1465, 1466, 1467, 1490, 1491, 1492, 1493, 1494, 1495, 1496, 1497, 1498, 1499, 1500, 1501, 1483, 1484, 1485, 1486, 1487, 1488, 1489] (by decide +kernel) (by decide +kernel)) (goodIn_sub (fun _ h => List.mem_append_left _ (List.mem_append_right _ h)) (by decide +kernel))
set_option maxRecDepth 20000 in
theorem gL_law_L_ledger : GoodIn wsL_law (va_wsS RL 352 yL_ledger wsL_ledger) := goodIn_app (goodIn_of _ (by decide +kernel)) ggL_law_L_ledger
set_option maxRecDepth 20000 in
theorem ggL_law_X5_ledger : GoodIn wsL_law wsX5_ledger := goodIn_r _ [1380, 126, 127, 5, 128, 129, 130, 131, 132, 133, 134, 135, 136, 137, 1381, 1382, 1383, 1384, 41, 28, 148, 153, 43, 44, 45, 859, 383, 384, 385, 1468, 1469, 1470, 1471, 1472, 1473, 1474, 1475, 1476, 1477, 1478, 1479, 1480] (by decide +kernel) (by decide +kernel)
set_option maxRecDepth 20000 in
theorem gL_law_X5_ledger : GoodIn wsL_law (wsV RL 354 RX5 yX5_ledger wsX5_ledger) := goodIn_app (goodIn_of _ (by decide +kernel)) ggL_law_X5_ledger
