set_option maxRecDepth 20000 in
theorem ggL_law_X4_of : GoodIn wsL_law wsX4_of := goodIn_r _ [461, 94, 62, 65, 54, 169, 170, 171, 5, 172, 95, 96, 97, 98, 99, 177, 178, 179, 180, 181, 182, 183, 184, 58, 185, 186, 187, 188, 63, 57, 189, 190, 191, 192, 193, 64, 123, 56, 194, 195, 196, 197, 66, 55, 278, 279, 280, 281, 556, 557, 558, 559, 560, 561, 562, 563, 564, 565, 566, 567, 568, 569, 570, 571, 572, 573, 574, 575, 576] (by decide +kernel) (by decide +kernel)
set_option maxRecDepth 20000 in
theorem gL_law_X4_of : GoodIn wsL_law (wsV RL 111 RX4 yX4_of wsX4_of) := goodIn_app (goodIn_of _ (by decide +kernel)) ggL_law_X4_of
set_option maxRecDepth 20000 in
theorem ggL_law_L_ofAtom : GoodIn wsL_law wsL_ofAtom := goodIn_ca (goodIn_r _ [464, 131, 465, 466, 467, 2, 468, 16, 469, 143, 144, 145, 146, 140, 141, 147, 470, 342, 343, 15, 344, 34, 30, 40, 33, 245, 246, 247, 248, 339, 340, 471, 472, 473, 474, 551, 552, 553, 554, 555, 577, 578, 579, 580, 581, 582, 583, 584, 585, 586] (by decide +kernel) (by decide +kernel)) (goodIn_sub (fun _ h => List.mem_append_left _ (List.mem_append_right _ h)) (by decide +kernel))
set_option maxRecDepth 20000 in
theorem gL_law_L_ofAtom : GoodIn wsL_law (va_wsS RL 112 yL_ofAtom wsL_ofAtom) := goodIn_app (goodIn_of _ (by decide +kernel)) ggL_law_L_ofAtom
set_option maxRecDepth 20000 in
theorem ggL_law_X4_ofAtom : GoodIn wsL_law wsX4_ofAtom := goodIn_r _ [478, 94, 64, 66, 55, 173, 174, 175, 5, 176, 123, 95, 96, 97, 98, 99, 177, 178, 179, 180, 181, 182, 183, 184, 62, 58, 185, 186, 187, 188, 63, 57, 189, 190, 191, 192, 193, 56, 194, 195, 196, 197, 65, 54, 556, 557, 558, 559, 560, 561, 562, 563, 564, 565, 566, 567, 568, 569, 570, 571, 572, 573, 574, 575, 576] (by decide +kernel) (by decide +kernel)
set_option maxRecDepth 20000 in
theorem gL_law_X4_ofAtom : GoodIn wsL_law (wsV RL 114 RX4 yX4_ofAtom wsX4_ofAtom) := goodIn_app (goodIn_of _ (by decide +kernel)) ggL_law_X4_ofAtom
set_option maxRecDepth 20000 in
theorem ggL_law_L_way : GoodIn wsL_law wsL_way := goodIn_ca (goodIn_r _ [481, 131, 482, 483, 484, 2, 485, 24, 16, 136, 137, 138, 139, 140, 141, 142, 143, 144, 145, 146, 147, 486, 487, 488, 23, 489, 490, 49, 339, 340, 491, 492, 493, 15, 494, 30, 35, 88, 89, 156, 157, 495, 496, 497, 498, 499, 500, 501, 502, 36, 37, 503, 504, 505, 506, 507, 508, 509, 510, 551, 552, 553, 554, 555, 577, 578, 579, 580, 581, 582, 583, 584, 585, 586, 589] (by decide +kernel) (by decide +kernel)) (goodIn_sub (fun _ h => List.mem_append_left _ (List.mem_append_right _ h)) (by decide +kernel))
set_option maxRecDepth 20000 in
theorem gL_law_L_way : GoodIn wsL_law (va_wsS RL 115 yL_way wsL_way) := goodIn_app (goodIn_of _ (by decide +kernel)) ggL_law_L_way
set_option maxRecDepth 20000 in
theorem ggL_law_X4_way : GoodIn wsL_law wsX4_way := goodIn_r _ [514, 67, 169, 170, 171, 5, 172, 94, 173, 174, 175, 176, 123, 95, 96, 97, 98, 99, 515, 516, 517, 518, 56, 519, 520, 521, 522, 57, 58, 556, 557, 558, 559, 560, 561, 562, 563, 564, 565, 566, 567, 568, 569, 570, 571, 572, 573, 574, 575, 576] (by decide +kernel) (by decide +kernel)
set_option maxRecDepth 20000 in
theorem gL_law_X4_way : GoodIn wsL_law (wsV RL 118 RX4 yX4_way wsX4_way) := goodIn_app (goodIn_of _ (by decide +kernel)) ggL_law_X4_way
set_option maxRecDepth 20000 in
theorem ggL_law_X3_count : GoodIn wsL_law wsX3_count := goodIn_r _ [526, 16, 142, 147, 527, 528, 529, 25, 410, 530, 531, 532, 15, 533, 30, 38, 534, 535, 536, 537, 538, 450, 451, 452, 269, 270, 271, 272, 39, 156, 2, 157, 539, 540, 541, 542, 159, 160, 161, 162, 163, 164, 543, 544, 545, 546, 313, 314, 315, 316, 317, 318, 551, 552, 553, 554, 555, 577, 578, 579, 580, 581, 582, 583, 584, 585, 586] (by decide +kernel) (by decide +kernel)
set_option maxRecDepth 20000 in
theorem gL_law_X3_count : GoodIn wsL_law (wsV RL 119 RX3 yX3_count wsX3_count) := goodIn_app (goodIn_of _ (by decide +kernel)) ggL_law_X3_count
set_option maxRecDepth 20000 in
theorem ggL_law_X4_count : GoodIn wsL_law wsX4_count := goodIn_r _ [550, 99, 94, 62, 123, 56, 57, 58, 385, 177, 178, 179, 5, 180, 181, 182, 183, 184, 185, 186, 187, 188, 63, 189, 190, 191, 192, 193, 64, 194, 195, 196, 197, 65, 54, 66, 55, 278, 279, 280, 281, 198, 199, 200, 201, 202, 203, 204, 205, 556, 557, 558, 559, 560, 561, 562, 563, 564, 565, 566, 567, 568, 569, 570, 571, 572, 573, 574, 575, 576] (by decide +kernel) (by decide +kernel)
set_option maxRecDepth 20000 in
theorem gL_law_X4_count : GoodIn wsL_law (wsV RL 122 RX4 yX4_count wsX4_count) := goodIn_app (goodIn_of _ (by decide +kernel)) ggL_law_X4_count
