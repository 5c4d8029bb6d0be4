set_option maxRecDepth 20000 in
theorem gL_law_L_viewStrike : GoodIn wsL_law (va_wsS RL 272 yL_viewStrike wsL_viewStrike) := goodIn_app (goodIn_of _ (by decide +kernel)) ggL_law_L_viewStrike
set_option maxRecDepth 20000 in
theorem ggL_law_X5_viewStrike : GoodIn wsL_law wsX5_viewStrike := goodIn_r _ [675, 41, 622, 623, 624, 5, 625, 126, 127, 128, 129, 130, 131, 132, 133, 134, 135, 136, 137, 138, 139, 140, 144, 145, 146, 147, 148, 43, 356, 357, 358, 359, 37, 360, 361, 362, 363, 364, 365, 366, 367, 39, 38, 149, 150, 151, 152, 153, 1468, 1469, 1470, 1471, 1472, 1473, 1474, 1475, 1476, 1477, 1478, 1479, 1480] (by decide +kernel) (by decide +kernel)
set_option maxRecDepth 20000 in
theorem gL_law_X5_viewStrike : GoodIn wsL_law (wsV RL 274 RX5 yX5_viewStrike wsX5_viewStrike) := goodIn_app (goodIn_of _ (by decide +kernel)) ggL_law_X5_viewStrike
set_option maxRecDepth 20000 in
theorem ggL_law_L_viewMerge : GoodIn wsL_law wsL_viewMerge := goodIn_ca (goodIn_ca (goodIn_r _ [678, 56, 57, 679, 680, 681, 2, 682, 657, 658, 659, 660, 610, 611, 612, 613, 70, 71, 20, 72, 73, 74, 75, 76, 77, 78, 79, 508, 495, 496, 497, 498, 499, 80, 81, 82, 18, 83, 84, 614, 615, 616, 617, 549, 551, 552, 94, 95, 96, 31, 249, 250, 251, 252, 253, 162, 163, 164, 165, 166, 167, 168, 89, 90, 91, 92, 93, 97, 98, 99, 100, 101, 29, 169, 170, 171, 172, 102, 103, 104, 105, 173, 174, 175, 176, 30, 254, 86, 87, 88, 106, 107, 108, 109, 110, 111, 112, 113, 114, 255, 256, 257, 258, 259, 260, 261, 262, 263, 264, 265, 266, 267, 268, 269, 216, 217, 218, 219, 220, 221, 222, 1481, 1482, 1462, 1463, 1464, 1465, 1466, 1467, 1495, 1496, 1497, 1498, 1499, 1500, 1501, 1483, 1484, 1485, 1486, 1487, 1488, 1489] (by decide +kernel) (by decide +kernel)) (goodIn_sub (fun _ h => List.mem_append_left _ (List.mem_append_left _ (List.mem_append_right _ h))) (by decide +kernel))) (goodIn_sub (fun _ h => List.mem_append_left _ (List.mem_append_right _ h)) (by decide +kernel))
set_option maxRecDepth 20000 in
theorem gL_law_L_viewMerge : GoodIn wsL_law (va_wsS RL 275 yL_viewMerge wsL_viewMerge) := goodIn_app (goodIn_of _ (by decide +kernel)) ggL_law_L_viewMerge
set_option maxRecDepth 20000 in
theorem ggL_law_X5_viewMerge : GoodIn wsL_law wsX5_viewMerge := goodIn_r _ [686, 41, 622, 623, 624, 5, 625, 126, 127, 128, 129, 130, 131, 132, 133, 134, 135, 136, 137, 138, 139, 140, 141, 142, 143, 144, 145, 146, 147, 148, 43, 360, 361, 362, 363, 364, 365, 366, 367, 39, 38, 274, 275, 276, 277, 37, 278, 279, 280, 149, 150, 151, 152, 153, 1468, 1469, 1470, 1471, 1472, 1473, 1474, 1475, 1476, 1477, 1478, 1479, 1480] (by decide +kernel) (by decide +kernel)
set_option maxRecDepth 20000 in
theorem gL_law_X5_viewMerge : GoodIn wsL_law (wsV RL 277 RX5 yX5_viewMerge wsX5_viewMerge) := goodIn_app (goodIn_of _ (by decide +kernel)) ggL_law_X5_viewMerge
set_option maxRecDepth 20000 in
theorem ggL_law_L_viewPoll : GoodIn wsL_law wsL_viewPoll := goodIn_ca (goodIn_r _ [689, 56, 690, 691, 692, 2, 693, 610, 611, 612, 613, 70, 71, 20, 508, 495, 496, 497, 498, 499, 80, 81, 82, 18, 83, 84, 633, 634, 635, 636, 637, 638, 639, 640, 551, 641, 98, 99, 100, 101, 29, 93, 94, 95, 96, 31, 642, 643, 644, 645, 549, 694, 695, 337, 338, 339, 340, 169, 170, 171, 172, 102, 103, 104, 105, 219, 220, 221, 222, 110, 111, 112, 113, 30, 114, 1481, 1482, 1462, 1463, 1464, 1465, 1466, 1467, 1495, 1496, 1497, 1498, 1499, 1500, 1501, 1483, 1484, 1485, 1486, 1487, 1488, 1489] (by decide +kernel) (by decide +kernel)) (goodIn_sub (fun _ h => List.mem_append_left _ (List.mem_append_left _ (List.mem_append_right _ h))) (by decide +kernel))
set_option maxRecDepth 20000 in
theorem gL_law_L_viewPoll : GoodIn wsL_law (va_wsS RL 278 yL_viewPoll wsL_viewPoll) := goodIn_app (goodIn_of _ (by decide +kernel)) ggL_law_L_viewPoll
set_option maxRecDepth 20000 in
theorem ggL_law_X5_viewPoll : GoodIn wsL_law wsX5_viewPoll := goodIn_r _ [699, 41, 622, 623, 624, 5, 625, 126, 127, 128, 129, 130, 131, 132, 133, 134, 135, 136, 137, 144, 145, 146, 147, 148, 43, 348, 349, 350, 351, 352, 353, 354, 355, 356, 357, 358, 359, 37, 360, 361, 362, 363, 364, 365, 366, 367, 39, 38, 149, 150, 151, 152, 153, 1468, 1469, 1470, 1471, 1472, 1473, 1474, 1475, 1476, 1477, 1478, 1479, 1480] (by decide +kernel) (by decide +kernel)
set_option maxRecDepth 20000 in
theorem gL_law_X5_viewPoll : GoodIn wsL_law (wsV RL 280 RX5 yX5_viewPoll wsX5_viewPoll) := goodIn_app (goodIn_of _ (by decide +kernel)) ggL_law_X5_viewPoll
set_option maxRecDepth 20000 in
theorem ggL_law_L_viewClear : GoodIn wsL_law wsL_viewClear := goodIn_ca (goodIn_r _ [702, 56, 703, 704, 705, 2, 706, 610, 611, 612, 613, 70, 71, 20, 508, 495, 496, 497, 498, 499, 80, 81, 82, 18, 83, 84, 695, 643, 644, 645, 549, 641, 98, 99, 100, 101, 29, 93, 94, 95, 96, 31, 694, 638, 639, 640, 551, 435, 220, 221, 222, 110, 111, 112, 113, 30, 114, 1481, 1482, 1462, 1463, 1464, 1465, 1466, 1467, 1495, 1496, 1497, 1498, 1499, 1500, 1501, 1483, 1484, 1485, 1486, 1487, 1488, 1489] (by decide +kernel) (by decide +kernel)) (goodIn_sub (fun _ h => List.mem_append_left _ (List.mem_append_left _ (List.mem_append_right _ h))) (by decide +kernel))
set_option maxRecDepth 20000 in
theorem gL_law_L_viewClear : GoodIn wsL_law (va_wsS RL 281 yL_viewClear wsL_viewClear) := goodIn_app (goodIn_of _ (by decide +kernel)) ggL_law_L_viewClear
set_option maxRecDepth 20000 in
theorem ggL_law_X5_viewClear : GoodIn wsL_law wsX5_viewClear := goodIn_r _ [710, 41, 622, 623, 624, 5, 625, 126, 127, 128, 129, 130, 131, 132, 133, 134, 135, 136, 137, 144, 145, 146, 147, 148, 43, 440, 441, 442, 443, 356, 357, 358, 359, 37, 360, 361, 362, 363, 364, 365, 366, 367, 39, 38, 149, 150, 151, 152, 153, 1468, 1469, 1470, 1471, 1472, 1473, 1474, 1475, 1476, 1477, 1478, 1479, 1480] (by decide +kernel) (by decide +kernel)
set_option maxRecDepth 20000 in
theorem gL_law_X5_viewClear : GoodIn wsL_law (wsV RL 283 RX5 yX5_viewClear wsX5_viewClear) := goodIn_app (goodIn_of _ (by decide +kernel)) ggL_law_X5_viewClear
set_option maxRecDepth 20000 in
theorem ggL_law_L_walk : GoodIn wsL_law wsL_walk := goodIn_ca (goodIn_r _ [713, 56, 714, 715, 716, 2, 717, 19, 540, 497, 66, 67, 68, 69, 70, 71, 16, 541, 542, 543, 544, 13, 14, 499, 545, 546, 547, 548, 549, 550, 263, 260, 264, 551, 552, 94, 95, 18, 96, 31, 718, 719, 720, 721, 722, 723, 491, 478, 724, 725, 726, 727, 493, 728, 729, 494, 495, 496, 498, 730, 731, 732, 733, 114, 633, 634, 635, 636, 637, 638, 639, 640, 641, 98, 99, 100, 101, 29, 93, 642, 643, 644, 645, 1481, 1482, 1495, 1496, 1497, 1498, 1499, 1500, 1501, 1462, 1463, 1464, 1465, 1466, 1467, 1483, 1484, 1485, 1486, 1487, 1488, 1489, 1490, 1491, 1492, 1493, 1494] (by decide +kernel) (by decide +kernel)) (goodIn_sub (fun _ h => List.mem_append_left _ (List.mem_append_left _ (List.mem_append_right _ h))) (by decide +kernel))
set_option maxRecDepth 20000 in
theorem gL_law_L_walk : GoodIn wsL_law (va_wsS RL 284 yL_walk wsL_walk) := goodIn_app (goodIn_of _ (by decide +kernel)) ggL_law_L_walk
set_option maxRecDepth 20000 in
theorem ggL_law_X5_walk : GoodIn wsL_law wsX5_walk := goodIn_r _ [737, 148, 123, 124, 5, 125, 126, 127, 128, 129, 130, 131, 132, 133, 134, 135, 136, 137, 345, 346, 347, 28, 513, 514, 515, 516, 153, 517, 42, 43, 467, 468, 469, 470, 356, 357, 358, 359, 37, 360, 361, 362, 363, 364, 365, 366, 367, 39, 38, 383, 384, 385, 1468, 1469, 1470, 1471, 1472, 1473, 1474, 1475, 1476, 1477, 1478, 1479, 1480] (by decide +kernel) (by decide +kernel)
set_option maxRecDepth 20000 in
theorem gL_law_X5_walk : GoodIn wsL_law (wsV RL 286 RX5 yX5_walk wsX5_walk) := goodIn_app (goodIn_of _ (by decide +kernel)) ggL_law_X5_walk
set_option maxRecDepth 20000 in
theorem ggL_law_L_viewWalk : GoodIn wsL_law wsL_viewWalk := goodIn_ca (goodIn_r _ [740, 56, 741, 742, 743, 2, 744, 610, 611, 612, 613, 70, 71, 20, 718, 719, 720, 721, 722, 723, 491, 478, 724, 725, 726, 727, 13, 14, 493, 728, 729, 494, 495, 496, 497, 498, 499, 730, 731, 732, 18, 733, 114, 633, 634, 635, 636, 637, 638, 639, 640, 551, 641, 98, 99, 100, 101, 29, 93, 94, 95, 96, 31, 642, 643, 644, 645, 549, 1481, 1482, 1462, 1463, 1464, 1465, 1466, 1467, 1490, 1491, 1492, 1493, 1494, 1495, 1496, 1497, 1498, 1499, 1500, 1501, 1483, 1484, 1485, 1486, 1487, 1488, 1489] (by decide +kernel) (by decide +kernel)) (goodIn_sub (fun _ h => List.mem_append_left _ (List.mem_append_left _ (List.mem_append_right _ h))) (by decide +kernel))
set_option maxRecDepth 20000 in
theorem gL_law_L_viewWalk : GoodIn wsL_law (va_wsS RL 287 yL_viewWalk wsL_viewWalk) := goodIn_app (goodIn_of _ (by decide +kernel)) ggL_law_L_viewWalk
set_option maxRecDepth 20000 in
theorem ggL_law_X5_viewWalk : GoodIn wsL_law wsX5_viewWalk := goodIn_r _ [748, 41, 749, 750, 751, 752, 753, 40, 148, 622, 623, 624, 5, 625, 126, 127, 128, 129, 130, 131, 132, 133, 134, 135, 136, 137, 513, 514, 515, 516, 153, 517, 42, 43, 467, 468, 469, 470, 356, 357, 358, 359, 37, 360, 361, 362, 363, 364, 365, 366, 367, 39, 38, 383, 384, 385, 1468, 1469, 1470, 1471, 1472, 1473, 1474, 1475, 1476, 1477, 1478, 1479, 1480] (by decide +kernel) (by decide +kernel)
set_option maxRecDepth 20000 in
theorem gL_law_X5_viewWalk : GoodIn wsL_law (wsV RL 289 RX5 yX5_viewWalk wsX5_viewWalk) := goodIn_app (goodIn_of _ (by decide +kernel)) ggL_law_X5_viewWalk
set_option maxRecDepth 20000 in
theorem ggL_law_L_step : GoodIn wsL_law wsL_step := goodIn_ca (goodIn_r _ [756, 405, 757, 758, 759, 2, 760, 761, 762, 763, 764, 410, 411, 478, 765, 766, 767, 491, 768, 729, 769, 489, 490, 492, 493, 494, 495, 496, 497, 498, 499, 730, 731, 732, 18, 733, 114, 770, 771, 772, 773, 728, 774, 775, 776, 643, 644, 645, 549, 641, 98, 99, 100, 101, 29, 93, 94, 95, 96, 31, 777, 778, 779, 780, 97, 781, 638, 639, 640, 551, 782, 170, 171, 172, 102, 103, 104, 105, 783, 784, 785, 786, 84, 1481, 1482, 1462, 1463, 1464, 1465, 1466, 1467, 1490, 1491, 1492, 1493, 1494, 1495, 1496, 1497, 1498, 1499, 1500, 1501, 1483, 1484, 1485, 1486, 1487, 1488, 1489] (by decide +kernel) (by decide +kernel)) (goodIn_sub (fun _ h => List.mem_append_right _ h) (by decide +kernel))
set_option maxRecDepth 20000 in
theorem gL_law_L_step : GoodIn wsL_law (va_wsS RL 290 yL_step wsL_step) := goodIn_app (goodIn_of _ (by decide +kernel)) ggL_law_L_step
set_option maxRecDepth 20000 in
theorem ggL_law_X5_step : GoodIn wsL_law wsX5_step := goodIn_r _ [790, 148, 153, 517, 42, 43, 129, 130, 131, 5, 132, 133, 134, 135, 136, 137, 352, 353, 354, 355, 356, 357, 358, 359, 37, 360, 361, 362, 363, 364, 365, 366, 367, 39, 38, 1468, 1469, 1470, 1471, 1472, 1473, 1474, 1475, 1476, 1477, 1478, 1479, 1480] (by decide +kernel) (by decide +kernel)
set_option maxRecDepth 20000 in
theorem gL_law_X5_step : GoodIn wsL_law (wsV RL 293 RX5 yX5_step wsX5_step) := goodIn_app (goodIn_of _ (by decide +kernel)) ggL_law_X5_step
set_option maxRecDepth 20000 in
theorem ggL_law_L_write : GoodIn wsL_law wsL_write := goodIn_ca (goodIn_ca (goodIn_r _ [793, 57, 405, 794, 795, 796, 2, 797, 410, 411, 77, 78, 79, 75, 76, 761, 762, 763, 764, 478, 765, 766, 767, 491, 768, 729, 769, 489, 490, 492, 493, 494, 495, 496, 497, 498, 499, 730, 731, 732, 18, 733, 114, 798, 799, 800, 801, 774, 775, 728, 783, 784, 785, 786, 84, 488, 85, 86, 87, 88, 29, 30, 89, 90, 91, 92, 93, 94, 95, 96, 31, 97, 98, 99, 100, 101, 102, 103, 104, 105, 106, 107, 108, 109, 110, 111, 112, 113, 1481, 1482, 1462, 1463, 1464, 1465, 1466, 1467, 1490, 1491, 1492, 1493, 1494, 1495, 1496, 1497, 1498, 1499, 1500, 1501, 1483, 1484, 1485, 1486, 1487, 1488, 1489] (by decide +kernel) (by decide +kernel)) (goodIn_sub (fun _ h => List.mem_append_right _ h) (by decide +kernel))) (goodIn_sub (fun _ h => List.mem_append_left _ (List.mem_append_right _ h)) (by decide +kernel))
set_option maxRecDepth 20000 in
theorem gL_law_L_write : GoodIn wsL_law (va_wsS RL 294 yL_write wsL_write) := goodIn_app (goodIn_of _ (by decide +kernel)) ggL_law_L_write
set_option maxRecDepth 20000 in
theorem ggL_law_X5_write : GoodIn wsL_law wsX5_write := goodIn_r _ [805, 148, 153, 43, 141, 142, 5, 143, 126, 127, 128, 129, 130, 131, 132, 133, 134, 135, 136, 137, 149, 150, 151, 152, 37, 1468, 1469, 1470, 1471, 1472, 1473, 1474, 1475, 1476, 1477, 1478, 1479, 1480] (by decide +kernel) (by decide +kernel)
set_option maxRecDepth 20000 in
theorem gL_law_X5_write : GoodIn wsL_law (wsV RL 296 RX5 yX5_write wsX5_write) := goodIn_app (goodIn_of _ (by decide +kernel)) ggL_law_X5_write
set_option maxRecDepth 20000 in
theorem ggL_law_L_drop : GoodIn wsL_law wsL_drop := goodIn_ca (goodIn_r _ [808, 405, 809, 810, 811, 2, 812, 410, 411, 761, 762, 763, 764, 478, 765, 766, 767, 491, 768, 729, 769, 489, 490, 492, 493, 494, 495, 496, 497, 498, 499, 730, 731, 732, 18, 733, 114, 813, 814, 815, 816, 774, 817, 818, 819, 820, 728, 821, 216, 217, 218, 89, 90, 91, 92, 93, 94, 95, 96, 31, 97, 98, 99, 100, 101, 29, 169, 170, 171, 172, 102, 103, 104, 105, 173, 174, 175, 176, 30, 219, 220, 221, 222, 110, 111, 112, 113, 488, 333, 334, 335, 336, 1481, 1482, 1462, 1463, 1464, 1465, 1466, 1467, 1490, 1491, 1492, 1493, 1494, 1495, 1496, 1497, 1498, 1499, 1500, 1501, 1483, 1484, 1485, 1486, 1487, 1488, 1489] (by decide +kernel) (by decide +kernel)) (goodIn_sub (fun _ h => List.mem_append_right _ h) (by decide +kernel))
set_option maxRecDepth 20000 in
theorem gL_law_L_drop : GoodIn wsL_law (va_wsS RL 297 yL_drop wsL_drop) := goodIn_app (goodIn_of _ (by decide +kernel)) ggL_law_L_drop
set_option maxRecDepth 20000 in
theorem ggL_law_X5_drop : GoodIn wsL_law wsX5_drop := goodIn_r _ [825, 148, 153, 42, 37, 43, 129, 130, 131, 5, 132, 133, 134, 135, 136, 137, 345, 346, 347, 28, 467, 468, 469, 470, 356, 357, 358, 359, 360, 361, 362, 363, 364, 365, 366, 367, 39, 38, 383, 384, 385, 1468, 1469, 1470, 1471, 1472, 1473, 1474, 1475, 1476, 1477, 1478, 1479, 1480] (by decide +kernel) (by decide +kernel)
set_option maxRecDepth 20000 in
theorem gL_law_X5_drop : GoodIn wsL_law (wsV RL 299 RX5 yX5_drop wsX5_drop) := goodIn_app (goodIn_of _ (by decide +kernel)) ggL_law_X5_drop
set_option maxRecDepth 20000 in
theorem ggL_law_L_keep : GoodIn wsL_law wsL_keep := goodIn_ca (goodIn_r _ [828, 56, 829, 830, 831, 2, 832, 21, 22, 66, 67, 68, 69, 70, 71, 16, 333, 334, 335, 18, 336, 101, 833, 170, 171, 172, 29, 102, 103, 104, 105, 834, 174, 175, 176, 30, 1481, 1482, 1462, 1463, 1464, 1465, 1466, 1467, 1483, 1484, 1485, 1486, 1487, 1488, 1489] (by decide +kernel) (by decide +kernel)) (goodIn_sub (fun _ h => List.mem_append_left _ (List.mem_append_left _ (List.mem_append_right _ h))) (by decide +kernel))
set_option maxRecDepth 20000 in
theorem gL_law_L_keep : GoodIn wsL_law (va_wsS RL 300 yL_keep wsL_keep) := goodIn_app (goodIn_of _ (by decide +kernel)) ggL_law_L_keep
set_option maxRecDepth 20000 in
theorem ggL_law_X5_keep : GoodIn wsL_law wsX5_keep := goodIn_r _ [838, 44, 37, 45, 123, 124, 5, 125, 126, 127, 128, 129, 130, 131, 132, 133, 134, 135, 136, 137, 345, 346, 347, 28, 348, 349, 350, 351, 352, 353, 354, 355, 356, 357, 358, 359, 360, 361, 362, 363, 364, 365, 366, 367, 39, 38, 1468, 1469, 1470, 1471, 1472, 1473, 1474, 1475, 1476, 1477, 1478, 1479, 1480] (by decide +kernel) (by decide +kernel)
set_option maxRecDepth 20000 in
theorem gL_law_X5_keep : GoodIn wsL_law (wsV RL 302 RX5 yX5_keep wsX5_keep) := goodIn_app (goodIn_of _ (by decide +kernel)) ggL_law_X5_keep
set_option maxRecDepth 20000 in
theorem ggL_law_L_brand : GoodIn wsL_law wsL_brand := goodIn_ca (goodIn_r _ [841, 57, 842, 843, 844, 2, 845, 21, 77, 78, 79, 75, 76, 1481, 1482, 1462, 1463, 1464, 1465, 1466, 1467] (by decide +kernel) (by decide +kernel)) (goodIn_sub (fun _ h => List.mem_append_left _ (List.mem_append_right _ h)) (by decide +kernel))
set_option maxRecDepth 20000 in
theorem gL_law_L_brand : GoodIn wsL_law (va_wsS RL 303 yL_brand wsL_brand) := goodIn_app (goodIn_of _ (by decide +kernel)) ggL_law_L_brand
set_option maxRecDepth 20000 in
theorem ggL_law_X5_brand : GoodIn wsL_law wsX5_brand := goodIn_r _ [849, 44, 141, 142, 5, 143, 126, 127, 128, 129, 130, 131, 132, 133, 134, 135, 136, 137, 1468, 1469, 1470, 1471, 1472, 1473, 1474, 1475, 1476, 1477, 1478, 1479, 1480] (by decide +kernel) (by decide +kernel)
set_option maxRecDepth 20000 in
theorem gL_law_X5_brand : GoodIn wsL_law (wsV RL 305 RX5 yX5_brand wsX5_brand) := goodIn_app (goodIn_of _ (by decide +kernel)) ggL_law_X5_brand
set_option maxRecDepth 20000 in
theorem ggL_law_X3_knock : GoodIn wsL_law wsX3_knock := goodIn_r _ [853, 854, 1462, 1463, 1464, 1465, 1466, 1467] (by decide +kernel) (by decide +kernel)
set_option maxRecDepth 20000 in
theorem gL_law_X3_knock : GoodIn wsL_law (wsV RL 306 RX3 yX3_knock wsX3_knock) := goodIn_app (goodIn_of _ (by decide +kernel)) ggL_law_X3_knock
set_option maxRecDepth 20000 in
theorem ggL_law_X5_knock : GoodIn wsL_law wsX5_knock := goodIn_r _ [858, 133, 859, 1468, 1469, 1470, 1471, 1472, 1473, 1474, 1475, 1476, 1477, 1478, 1479, 1480] (by decide +kernel) (by decide +kernel)
set_option maxRecDepth 20000 in
theorem gL_law_X5_knock : GoodIn wsL_law (wsV RL 309 RX5 yX5_knock wsX5_knock) := goodIn_app (goodIn_of _ (by decide +kernel)) ggL_law_X5_knock
set_option maxRecDepth 20000 in
theorem ggL_law_L_get : GoodIn wsL_law wsL_get := goodIn_ca (goodIn_ca (goodIn_r _ [862, 56, 57, 863, 864, 865, 2, 866, 66, 67, 68, 69, 70, 71, 16, 72, 73, 74, 75, 76, 177, 166, 167, 18, 168, 89, 90, 91, 92, 93, 94, 95, 96, 31, 97, 98, 99, 100, 101, 29, 169, 170, 171, 172, 102, 103, 104, 105, 173, 174, 175, 176, 30, 1481, 1482, 1462, 1463, 1464, 1465, 1466, 1467, 1483, 1484, 1485, 1486, 1487, 1488, 1489] (by decide +kernel) (by decide +kernel)) (goodIn_sub (fun _ h => List.mem_append_left _ (List.mem_append_left _ (List.mem_append_right _ h))) (by decide +kernel))) (goodIn_sub (fun _ h => List.mem_append_left _ (List.mem_append_right _ h)) (by decide +kernel))
set_option maxRecDepth 20000 in
theorem gL_law_L_get : GoodIn wsL_law (va_wsS RL 310 yL_get wsL_get) := goodIn_app (goodIn_of _ (by decide +kernel)) ggL_law_L_get
set_option maxRecDepth 20000 in
theorem ggL_law_X5_get : GoodIn wsL_law wsX5_get := goodIn_r _ [870, 37, 227, 228, 229, 5, 230, 123, 124, 125, 126, 127, 128, 129, 130, 131, 132, 133, 134, 135, 136, 137, 138, 139, 140, 1468, 1469, 1470, 1471, 1472, 1473, 1474, 1475, 1476, 1477, 1478, 1479, 1480] (by decide +kernel) (by decide +kernel)
