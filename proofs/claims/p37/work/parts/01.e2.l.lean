set_option maxRecDepth 20000 in
theorem ggL_law_L_put : GoodIn wsL_law wsL_put := goodIn_ca (goodIn_ca (goodIn_r _ [55, 56, 57, 58, 59, 60, 2, 61, 62, 63, 64, 65, 66, 67, 68, 69, 70, 71, 16, 72, 73, 74, 75, 76, 77, 78, 79, 80, 81, 82, 18, 83, 84, 85, 86, 87, 88, 29, 30, 89, 90, 91, 92, 93, 94, 95, 96, 31, 97, 98, 99, 100, 101, 102, 103, 104, 105, 106, 107, 108, 109, 110, 111, 112, 113, 114, 1481, 1482, 1462, 1463, 1464, 1465, 1466, 1467, 1483, 1484, 1485, 1486, 1487, 1488, 1489] (by decide +kernel) (by decide +kernel)) (goodIn_sub (fun _ h => List.mem_append_left _ (List.mem_append_left _ (List.mem_append_right _ h))) (by decide +kernel))) (goodIn_sub (fun _ h => List.mem_append_left _ (List.mem_append_right _ h)) (by decide +kernel))
set_option maxRecDepth 20000 in
theorem gL_law_L_put : GoodIn wsL_law (va_wsS RL 191 yL_put wsL_put) := goodIn_app (goodIn_of _ (by decide +kernel)) ggL_law_L_put
set_option maxRecDepth 20000 in
theorem ggL_law_X5_put : GoodIn wsL_law wsX5_put := goodIn_r _ [118, 119, 120, 121, 5, 122, 123, 124, 125, 126, 127, 128, 129, 130, 131, 132, 133, 134, 135, 136, 137, 138, 139, 140, 141, 142, 143, 144, 145, 146, 147, 148, 43, 149, 150, 151, 152, 37, 153, 1468, 1469, 1470, 1471, 1472, 1473, 1474, 1475, 1476, 1477, 1478, 1479, 1480] (by decide +kernel) (by decide +kernel)
set_option maxRecDepth 20000 in
theorem gL_law_X5_put : GoodIn wsL_law (wsV RL 196 RX5 yX5_put wsX5_put) := goodIn_app (goodIn_of _ (by decide +kernel)) ggL_law_X5_put
set_option maxRecDepth 20000 in
theorem ggL_law_L_putAbsent : GoodIn wsL_law wsL_putAbsent := goodIn_ca (goodIn_ca (goodIn_r _ [156, 56, 57, 157, 158, 159, 2, 160, 62, 63, 64, 65, 66, 67, 68, 69, 70, 71, 16, 72, 73, 74, 75, 76, 77, 78, 79, 80, 81, 82, 18, 83, 84, 161, 162, 163, 164, 165, 166, 167, 168, 89, 90, 91, 92, 93, 94, 95, 96, 31, 97, 98, 99, 100, 101, 29, 169, 170, 171, 172, 102, 103, 104, 105, 173, 174, 175, 176, 30, 177, 85, 86, 87, 88, 106, 107, 108, 109, 110, 111, 112, 113, 114, 1481, 1482, 1462, 1463, 1464, 1465, 1466, 1467, 1483, 1484, 1485, 1486, 1487, 1488, 1489] (by decide +kernel) (by decide +kernel)) (goodIn_sub (fun _ h => List.mem_append_left _ (List.mem_append_left _ (List.mem_append_right _ h))) (by decide +kernel))) (goodIn_sub (fun _ h => List.mem_append_left _ (List.mem_append_right _ h)) (by decide +kernel))
set_option maxRecDepth 20000 in
theorem gL_law_L_putAbsent : GoodIn wsL_law (va_wsS RL 197 yL_putAbsent wsL_putAbsent) := goodIn_app (goodIn_of _ (by decide +kernel)) ggL_law_L_putAbsent
set_option maxRecDepth 20000 in
theorem ggL_law_X5_putAbsent : GoodIn wsL_law wsX5_putAbsent := goodIn_r _ [181, 37, 119, 120, 121, 5, 122, 123, 124, 125, 126, 127, 128, 129, 130, 131, 132, 133, 134, 135, 136, 137, 138, 139, 140, 141, 142, 143, 144, 145, 146, 147, 148, 43, 149, 150, 151, 152, 153, 1468, 1469, 1470, 1471, 1472, 1473, 1474, 1475, 1476, 1477, 1478, 1479, 1480] (by decide +kernel) (by decide +kernel)
set_option maxRecDepth 20000 in
theorem gL_law_X5_putAbsent : GoodIn wsL_law (wsV RL 199 RX5 yX5_putAbsent wsX5_putAbsent) := goodIn_app (goodIn_of _ (by decide +kernel)) ggL_law_X5_putAbsent
set_option maxRecDepth 20000 in
theorem ggL_law_L_replace : GoodIn wsL_law wsL_replace := goodIn_ca (goodIn_ca (goodIn_r _ [184, 56, 57, 185, 186, 187, 2, 188, 62, 63, 64, 65, 66, 67, 68, 69, 70, 71, 16, 72, 73, 74, 75, 76, 77, 78, 79, 80, 81, 82, 18, 83, 84, 161, 162, 163, 164, 165, 166, 167, 168, 89, 90, 91, 92, 93, 94, 95, 96, 31, 97, 98, 99, 100, 101, 29, 169, 170, 171, 172, 102, 103, 104, 105, 173, 174, 175, 176, 30, 85, 86, 87, 88, 106, 107, 108, 109, 110, 111, 112, 113, 114, 1481, 1482, 1462, 1463, 1464, 1465, 1466, 1467, 1483, 1484, 1485, 1486, 1487, 1488, 1489] (by decide +kernel) (by decide +kernel)) (goodIn_sub (fun _ h => List.mem_append_left _ (List.mem_append_left _ (List.mem_append_right _ h))) (by decide +kernel))) (goodIn_sub (fun _ h => List.mem_append_left _ (List.mem_append_right _ h)) (by decide +kernel))
set_option maxRecDepth 20000 in
theorem gL_law_L_replace : GoodIn wsL_law (va_wsS RL 200 yL_replace wsL_replace) := goodIn_app (goodIn_of _ (by decide +kernel)) ggL_law_L_replace
set_option maxRecDepth 20000 in
theorem ggL_law_X5_replace : GoodIn wsL_law wsX5_replace := goodIn_r _ [192, 37, 119, 120, 121, 5, 122, 123, 124, 125, 126, 127, 128, 129, 130, 131, 132, 133, 134, 135, 136, 137, 138, 139, 140, 141, 142, 143, 144, 145, 146, 147, 148, 43, 149, 150, 151, 152, 153, 1468, 1469, 1470, 1471, 1472, 1473, 1474, 1475, 1476, 1477, 1478, 1479, 1480] (by decide +kernel) (by decide +kernel)
set_option maxRecDepth 20000 in
theorem gL_law_X5_replace : GoodIn wsL_law (wsV RL 202 RX5 yX5_replace wsX5_replace) := goodIn_app (goodIn_of _ (by decide +kernel)) ggL_law_X5_replace
set_option maxRecDepth 20000 in
theorem ggL_law_L_swap : GoodIn wsL_law wsL_swap := goodIn_ca (goodIn_ca (goodIn_r _ [195, 56, 57, 196, 197, 198, 2, 199, 66, 67, 68, 69, 70, 71, 16, 72, 73, 74, 75, 76, 77, 78, 79, 80, 81, 82, 18, 83, 84, 177, 166, 167, 168, 89, 90, 91, 92, 93, 94, 95, 96, 31, 97, 98, 99, 100, 101, 29, 169, 170, 171, 172, 102, 103, 104, 105, 173, 174, 175, 176, 30, 85, 86, 87, 88, 106, 107, 108, 109, 110, 111, 112, 113, 114, 1481, 1482, 1462, 1463, 1464, 1465, 1466, 1467, 1483, 1484, 1485, 1486, 1487, 1488, 1489] (by decide +kernel) (by decide +kernel)) (goodIn_sub (fun _ h => List.mem_append_left _ (List.mem_append_left _ (List.mem_append_right _ h))) (by decide +kernel))) (goodIn_sub (fun _ h => List.mem_append_left _ (List.mem_append_right _ h)) (by decide +kernel))
set_option maxRecDepth 20000 in
theorem gL_law_L_swap : GoodIn wsL_law (va_wsS RL 203 yL_swap wsL_swap) := goodIn_app (goodIn_of _ (by decide +kernel)) ggL_law_L_swap
set_option maxRecDepth 20000 in
theorem ggL_law_X5_swap : GoodIn wsL_law wsX5_swap := goodIn_r _ [203, 37, 119, 120, 121, 5, 122, 123, 124, 125, 126, 127, 128, 129, 130, 131, 132, 133, 134, 135, 136, 137, 138, 139, 140, 141, 142, 143, 144, 145, 146, 147, 148, 43, 149, 150, 151, 152, 153, 1468, 1469, 1470, 1471, 1472, 1473, 1474, 1475, 1476, 1477, 1478, 1479, 1480] (by decide +kernel) (by decide +kernel)
set_option maxRecDepth 20000 in
theorem gL_law_X5_swap : GoodIn wsL_law (wsV RL 206 RX5 yX5_swap wsX5_swap) := goodIn_app (goodIn_of _ (by decide +kernel)) ggL_law_X5_swap
set_option maxRecDepth 20000 in
theorem ggL_law_L_strike : GoodIn wsL_law wsL_strike := goodIn_ca (goodIn_ca (goodIn_r _ [206, 56, 57, 207, 208, 209, 2, 210, 211, 212, 213, 214, 66, 67, 68, 69, 70, 71, 16, 72, 73, 74, 75, 76, 80, 81, 82, 18, 83, 84, 215, 216, 217, 218, 89, 90, 91, 92, 93, 94, 95, 96, 31, 97, 98, 99, 100, 101, 29, 169, 170, 171, 172, 102, 103, 104, 105, 173, 174, 175, 176, 30, 219, 220, 221, 222, 110, 111, 112, 113, 114, 1481, 1482, 1462, 1463, 1464, 1465, 1466, 1467, 1483, 1484, 1485, 1486, 1487, 1488, 1489] (by decide +kernel) (by decide +kernel)) (goodIn_sub (fun _ h => List.mem_append_left _ (List.mem_append_left _ (List.mem_append_right _ h))) (by decide +kernel))) (goodIn_sub (fun _ h => List.mem_append_left _ (List.mem_append_right _ h)) (by decide +kernel))
set_option maxRecDepth 20000 in
theorem gL_law_L_strike : GoodIn wsL_law (va_wsS RL 207 yL_strike wsL_strike) := goodIn_app (goodIn_of _ (by decide +kernel)) ggL_law_L_strike
set_option maxRecDepth 20000 in
theorem ggL_law_X5_strike : GoodIn wsL_law wsX5_strike := goodIn_r _ [226, 227, 228, 229, 5, 230, 123, 124, 125, 126, 127, 128, 129, 130, 131, 132, 133, 134, 135, 136, 137, 138, 139, 140, 144, 145, 146, 147, 148, 43, 149, 150, 151, 152, 37, 153, 1468, 1469, 1470, 1471, 1472, 1473, 1474, 1475, 1476, 1477, 1478, 1479, 1480] (by decide +kernel) (by decide +kernel)
set_option maxRecDepth 20000 in
theorem gL_law_X5_strike : GoodIn wsL_law (wsV RL 210 RX5 yX5_strike wsX5_strike) := goodIn_app (goodIn_of _ (by decide +kernel)) ggL_law_X5_strike
set_option maxRecDepth 20000 in
theorem ggL_law_L_strikePair : GoodIn wsL_law wsL_strikePair := goodIn_ca (goodIn_ca (goodIn_r _ [233, 56, 57, 234, 235, 236, 2, 237, 62, 63, 64, 65, 66, 67, 68, 69, 70, 71, 16, 72, 73, 74, 75, 76, 77, 78, 79, 80, 81, 82, 18, 83, 84, 177, 166, 167, 168, 89, 90, 91, 92, 93, 94, 95, 96, 31, 97, 98, 99, 100, 101, 29, 169, 170, 171, 172, 102, 103, 104, 105, 173, 174, 175, 176, 30, 215, 216, 217, 218, 219, 220, 221, 222, 110, 111, 112, 113, 114, 1481, 1482, 1462, 1463, 1464, 1465, 1466, 1467, 1483, 1484, 1485, 1486, 1487, 1488, 1489] (by decide +kernel) (by decide +kernel)) (goodIn_sub (fun _ h => List.mem_append_left _ (List.mem_append_left _ (List.mem_append_right _ h))) (by decide +kernel))) (goodIn_sub (fun _ h => List.mem_append_left _ (List.mem_append_right _ h)) (by decide +kernel))
set_option maxRecDepth 20000 in
theorem gL_law_L_strikePair : GoodIn wsL_law (va_wsS RL 211 yL_strikePair wsL_strikePair) := goodIn_app (goodIn_of _ (by decide +kernel)) ggL_law_L_strikePair
set_option maxRecDepth 20000 in
theorem ggL_law_X5_strikePair : GoodIn wsL_law wsX5_strikePair := goodIn_r _ [241, 37, 119, 120, 121, 5, 122, 123, 124, 125, 126, 127, 128, 129, 130, 131, 132, 133, 134, 135, 136, 137, 138, 139, 140, 141, 142, 143, 144, 145, 146, 147, 148, 43, 149, 150, 151, 152, 153, 1468, 1469, 1470, 1471, 1472, 1473, 1474, 1475, 1476, 1477, 1478, 1479, 1480] (by decide +kernel) (by decide +kernel)
set_option maxRecDepth 20000 in
theorem gL_law_X5_strikePair : GoodIn wsL_law (wsV RL 213 RX5 yX5_strikePair wsX5_strikePair) := goodIn_app (goodIn_of _ (by decide +kernel)) ggL_law_X5_strikePair
set_option maxRecDepth 20000 in
theorem ggL_law_L_merge : GoodIn wsL_law wsL_merge := goodIn_ca (goodIn_ca (goodIn_r _ [244, 56, 57, 245, 246, 247, 2, 248, 62, 63, 64, 65, 66, 67, 68, 69, 70, 71, 16, 72, 73, 74, 75, 76, 77, 78, 79, 80, 81, 82, 18, 83, 84, 249, 250, 251, 252, 253, 162, 163, 164, 165, 166, 167, 168, 89, 90, 91, 92, 93, 94, 95, 96, 31, 97, 98, 99, 100, 101, 29, 169, 170, 171, 172, 102, 103, 104, 105, 173, 174, 175, 176, 30, 254, 86, 87, 88, 106, 107, 108, 109, 110, 111, 112, 113, 114, 255, 256, 257, 258, 259, 260, 261, 262, 263, 264, 265, 266, 267, 268, 269, 216, 217, 218, 219, 220, 221, 222, 1481, 1482, 1462, 1463, 1464, 1465, 1466, 1467, 1483, 1484, 1485, 1486, 1487, 1488, 1489] (by decide +kernel) (by decide +kernel)) (goodIn_sub (fun _ h => List.mem_append_left _ (List.mem_append_left _ (List.mem_append_right _ h))) (by decide +kernel))) (goodIn_sub (fun _ h => List.mem_append_left _ (List.mem_append_right _ h)) (by decide +kernel))
set_option maxRecDepth 20000 in
theorem gL_law_L_merge : GoodIn wsL_law (va_wsS RL 214 yL_merge wsL_merge) := goodIn_app (goodIn_of _ (by decide +kernel)) ggL_law_L_merge
set_option maxRecDepth 20000 in
theorem ggL_law_X5_merge : GoodIn wsL_law wsX5_merge := goodIn_r _ [273, 119, 120, 121, 5, 122, 123, 124, 125, 126, 127, 128, 129, 130, 131, 132, 133, 134, 135, 136, 137, 138, 139, 140, 141, 142, 143, 144, 145, 146, 147, 148, 43, 274, 275, 276, 277, 37, 278, 279, 280, 149, 150, 151, 152, 153, 1468, 1469, 1470, 1471, 1472, 1473, 1474, 1475, 1476, 1477, 1478, 1479, 1480] (by decide +kernel) (by decide +kernel)
set_option maxRecDepth 20000 in
theorem gL_law_X5_merge : GoodIn wsL_law (wsV RL 216 RX5 yX5_merge wsX5_merge) := goodIn_app (goodIn_of _ (by decide +kernel)) ggL_law_X5_merge
set_option maxRecDepth 20000 in
theorem ggL_law_L_halve : GoodIn wsL_law wsL_halve := goodIn_ca (goodIn_ca (goodIn_r _ [298, 56, 57, 299, 300, 301, 2, 302, 211, 212, 213, 214, 66, 67, 68, 69, 70, 71, 16, 72, 73, 74, 75, 76, 80, 81, 82, 18, 83, 84, 303, 304, 305, 306, 253, 162, 163, 164, 165, 166, 167, 168, 89, 90, 91, 92, 93, 94, 95, 96, 31, 97, 98, 99, 100, 101, 29, 169, 170, 171, 172, 102, 103, 104, 105, 173, 174, 175, 176, 30, 265, 266, 267, 268, 269, 216, 217, 218, 219, 220, 221, 222, 110, 111, 112, 113, 114, 254, 86, 87, 88, 106, 107, 108, 109, 1481, 1482, 1462, 1463, 1464, 1465, 1466, 1467, 1483, 1484, 1485, 1486, 1487, 1488, 1489] (by decide +kernel) (by decide +kernel)) (goodIn_sub (fun _ h => List.mem_append_left _ (List.mem_append_left _ (List.mem_append_right _ h))) (by decide +kernel))) (goodIn_sub (fun _ h => List.mem_append_left _ (List.mem_append_right _ h)) (by decide +kernel))
set_option maxRecDepth 20000 in
theorem gL_law_L_halve : GoodIn wsL_law (va_wsS RL 220 yL_halve wsL_halve) := goodIn_app (goodIn_of _ (by decide +kernel)) ggL_law_L_halve
set_option maxRecDepth 20000 in
theorem ggL_law_X5_halve : GoodIn wsL_law wsX5_halve := goodIn_r _ [310, 37, 227, 228, 229, 5, 230, 123, 124, 125, 126, 127, 128, 129, 130, 131, 132, 133, 134, 135, 136, 137, 138, 139, 140, 144, 145, 146, 147, 148, 43, 149, 150, 151, 152, 153, 1468, 1469, 1470, 1471, 1472, 1473, 1474, 1475, 1476, 1477, 1478, 1479, 1480] (by decide +kernel) (by decide +kernel)
set_option maxRecDepth 20000 in
theorem gL_law_X5_halve : GoodIn wsL_law (wsV RL 222 RX5 yX5_halve wsX5_halve) := goodIn_app (goodIn_of _ (by decide +kernel)) ggL_law_X5_halve
set_option maxRecDepth 20000 in
theorem ggL_law_L_twice : GoodIn wsL_law wsL_twice := goodIn_ca (goodIn_ca (goodIn_r _ [313, 56, 57, 314, 315, 316, 2, 317, 211, 212, 213, 214, 66, 67, 68, 69, 70, 71, 16, 72, 73, 74, 75, 76, 80, 81, 82, 18, 83, 84, 318, 319, 320, 321, 165, 166, 167, 168, 89, 90, 91, 92, 93, 94, 95, 96, 31, 97, 98, 99, 100, 101, 29, 169, 170, 171, 172, 102, 103, 104, 105, 173, 174, 175, 176, 30, 254, 86, 87, 88, 106, 107, 108, 109, 110, 111, 112, 113, 114, 269, 216, 217, 218, 219, 220, 221, 222, 1481, 1482, 1462, 1463, 1464, 1465, 1466, 1467, 1483, 1484, 1485, 1486, 1487, 1488, 1489] (by decide +kernel) (by decide +kernel)) (goodIn_sub (fun _ h => List.mem_append_left _ (List.mem_append_left _ (List.mem_append_right _ h))) (by decide +kernel))) (goodIn_sub (fun _ h => List.mem_append_left _ (List.mem_append_right _ h)) (by decide +kernel))
set_option maxRecDepth 20000 in
theorem gL_law_L_twice : GoodIn wsL_law (va_wsS RL 223 yL_twice wsL_twice) := goodIn_app (goodIn_of _ (by decide +kernel)) ggL_law_L_twice
set_option maxRecDepth 20000 in
theorem ggL_law_X5_twice : GoodIn wsL_law wsX5_twice := goodIn_r _ [325, 37, 227, 228, 229, 5, 230, 123, 124, 125, 126, 127, 128, 129, 130, 131, 132, 133, 134, 135, 136, 137, 138, 139, 140, 144, 145, 146, 147, 148, 43, 149, 150, 151, 152, 153, 1468, 1469, 1470, 1471, 1472, 1473, 1474, 1475, 1476, 1477, 1478, 1479, 1480] (by decide +kernel) (by decide +kernel)
set_option maxRecDepth 20000 in
theorem gL_law_X5_twice : GoodIn wsL_law (wsV RL 225 RX5 yX5_twice wsX5_twice) := goodIn_app (goodIn_of _ (by decide +kernel)) ggL_law_X5_twice
set_option maxRecDepth 20000 in
theorem ggL_law_L_poll : GoodIn wsL_law wsL_poll := goodIn_ca (goodIn_r _ [328, 56, 329, 330, 331, 2, 332, 66, 67, 68, 69, 70, 71, 16, 80, 81, 82, 18, 83, 84, 333, 334, 335, 336, 101, 337, 338, 339, 340, 169, 170, 171, 172, 29, 102, 103, 104, 105, 219, 220, 221, 222, 110, 111, 112, 113, 30, 114, 1481, 1482, 1462, 1463, 1464, 1465, 1466, 1467, 1483, 1484, 1485, 1486, 1487, 1488, 1489] (by decide +kernel) (by decide +kernel)) (goodIn_sub (fun _ h => List.mem_append_left _ (List.mem_append_left _ (List.mem_append_right _ h))) (by decide +kernel))
set_option maxRecDepth 20000 in
theorem gL_law_L_poll : GoodIn wsL_law (va_wsS RL 226 yL_poll wsL_poll) := goodIn_app (goodIn_of _ (by decide +kernel)) ggL_law_L_poll
set_option maxRecDepth 20000 in
theorem ggL_law_X5_poll : GoodIn wsL_law wsX5_poll := goodIn_r _ [344, 123, 124, 5, 125, 126, 127, 128, 129, 130, 131, 132, 133, 134, 135, 136, 137, 144, 145, 146, 147, 148, 43, 345, 346, 347, 28, 348, 349, 350, 351, 352, 353, 354, 355, 356, 357, 358, 359, 37, 360, 361, 362, 363, 364, 365, 366, 367, 39, 38, 149, 150, 151, 152, 153, 1468, 1469, 1470, 1471, 1472, 1473, 1474, 1475, 1476, 1477, 1478, 1479, 1480] (by decide +kernel) (by decide +kernel)
set_option maxRecDepth 20000 in
theorem gL_law_X5_poll : GoodIn wsL_law (wsV RL 229 RX5 yX5_poll wsX5_poll) := goodIn_app (goodIn_of _ (by decide +kernel)) ggL_law_X5_poll
set_option maxRecDepth 20000 in
theorem ggL_law_L_raise : GoodIn wsL_law wsL_raise := goodIn_ca (goodIn_ca (goodIn_r _ [370, 56, 57, 371, 372, 373, 2, 374, 75, 76, 66, 67, 68, 69, 70, 71, 16, 80, 81, 82, 18, 83, 84, 375, 376, 377, 378, 101, 30, 255, 256, 257, 258, 259, 260, 261, 262, 263, 264, 1481, 1482, 1462, 1463, 1464, 1465, 1466, 1467, 1483, 1484, 1485, 1486, 1487, 1488, 1489] (by decide +kernel) (by decide +kernel)) (goodIn_sub (fun _ h => List.mem_append_left _ (List.mem_append_right _ h)) (by decide +kernel))) (goodIn_sub (fun _ h => List.mem_append_left _ (List.mem_append_left _ (List.mem_append_right _ h))) (by decide +kernel))
set_option maxRecDepth 20000 in
theorem gL_law_L_raise : GoodIn wsL_law (va_wsS RL 230 yL_raise wsL_raise) := goodIn_app (goodIn_of _ (by decide +kernel)) ggL_law_L_raise
set_option maxRecDepth 20000 in
theorem ggL_law_X5_raise : GoodIn wsL_law wsX5_raise := goodIn_r _ [382, 37, 123, 124, 5, 125, 126, 127, 128, 129, 130, 131, 132, 133, 134, 135, 136, 137, 144, 145, 146, 147, 148, 43, 278, 279, 280, 149, 150, 151, 152, 153, 383, 384, 385, 1468, 1469, 1470, 1471, 1472, 1473, 1474, 1475, 1476, 1477, 1478, 1479, 1480] (by decide +kernel) (by decide +kernel)
set_option maxRecDepth 20000 in
theorem gL_law_X5_raise : GoodIn wsL_law (wsV RL 232 RX5 yX5_raise wsX5_raise) := goodIn_app (goodIn_of _ (by decide +kernel)) ggL_law_X5_raise
set_option maxRecDepth 20000 in
theorem ggL_law_L_sift : GoodIn wsL_law wsL_sift := goodIn_ca (goodIn_ca (goodIn_r _ [388, 56, 57, 389, 390, 391, 2, 392, 75, 76, 66, 67, 68, 69, 70, 71, 16, 80, 81, 82, 18, 83, 84, 393, 394, 395, 396, 101, 173, 174, 175, 176, 30, 102, 103, 104, 105, 397, 338, 339, 340, 169, 170, 171, 172, 29, 219, 220, 221, 222, 110, 111, 112, 113, 114, 1481, 1482, 1462, 1463, 1464, 1465, 1466, 1467, 1483, 1484, 1485, 1486, 1487, 1488, 1489] (by decide +kernel) (by decide +kernel)) (goodIn_sub (fun _ h => List.mem_append_left _ (List.mem_append_right _ h)) (by decide +kernel))) (goodIn_sub (fun _ h => List.mem_append_left _ (List.mem_append_left _ (List.mem_append_right _ h))) (by decide +kernel))
set_option maxRecDepth 20000 in
theorem gL_law_L_sift : GoodIn wsL_law (va_wsS RL 233 yL_sift wsL_sift) := goodIn_app (goodIn_of _ (by decide +kernel)) ggL_law_L_sift
set_option maxRecDepth 20000 in
theorem ggL_law_X5_sift : GoodIn wsL_law wsX5_sift := goodIn_r _ [401, 37, 123, 124, 5, 125, 126, 127, 128, 129, 130, 131, 132, 133, 134, 135, 136, 137, 144, 145, 146, 147, 148, 43, 149, 150, 151, 152, 153, 1468, 1469, 1470, 1471, 1472, 1473, 1474, 1475, 1476, 1477, 1478, 1479, 1480] (by decide +kernel) (by decide +kernel)
