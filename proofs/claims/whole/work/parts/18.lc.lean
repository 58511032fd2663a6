set_option maxRecDepth 20000 in
theorem ggL_law_X4_mark : GoodIn wsL_law wsX4_mark := goodIn_r _ [384, 99, 385, 59, 210, 60, 94, 61, 123, 556, 557, 558, 559, 560, 561, 562, 563, 564, 565, 566, 567, 568, 569, 570, 571, 572, 573, 574, 575, 576] (by decide +kernel) (by decide +kernel)
set_option maxRecDepth 20000 in
theorem gL_law_X4_mark : GoodIn wsL_law (wsV RL 95 RX4 yX4_mark wsX4_mark) := goodIn_app (goodIn_of _ (by decide +kernel)) ggL_law_X4_mark
set_option maxRecDepth 20000 in
theorem ggL_law_L_back : GoodIn wsL_law wsL_back := goodIn_ca (goodIn_r _ [388, 389, 390, 391, 392, 2, 393, 394, 395, 25, 16, 26, 373, 374, 375, 15, 376, 30, 31, 33, 377, 378, 379, 380, 34, 35, 36, 37, 38, 39, 40, 551, 552, 553, 554, 555, 577, 578, 579, 580, 581, 582, 583, 584, 585, 586] (by decide +kernel) (by decide +kernel)) (goodIn_sub (fun _ h => List.mem_append_right _ h) (by decide +kernel))
set_option maxRecDepth 20000 in
theorem gL_law_L_back : GoodIn wsL_law (va_wsS RL 96 yL_back wsL_back) := goodIn_app (goodIn_of _ (by decide +kernel)) ggL_law_L_back
set_option maxRecDepth 20000 in
theorem ggL_law_X4_back : GoodIn wsL_law wsX4_back := goodIn_r _ [399, 385, 59, 210, 60, 94, 61, 123, 56, 57, 58, 95, 96, 97, 5, 98, 99, 400, 401, 402, 556, 557, 558, 559, 560, 561, 562, 563, 564, 565, 566, 567, 568, 569, 570, 571, 572, 573, 574, 575, 576] (by decide +kernel) (by decide +kernel)
set_option maxRecDepth 20000 in
theorem gL_law_X4_back : GoodIn wsL_law (wsV RL 99 RX4 yX4_back wsX4_back) := goodIn_app (goodIn_of _ (by decide +kernel)) ggL_law_X4_back
set_option maxRecDepth 20000 in
theorem ggL_law_L_set : GoodIn wsL_law wsL_set := goodIn_ca (goodIn_r _ [405, 131, 406, 407, 408, 2, 409, 16, 410, 136, 137, 138, 139, 140, 141, 142, 551, 552, 553, 554, 555, 577, 578, 579, 580, 581, 582, 583, 584, 585, 586] (by decide +kernel) (by decide +kernel)) (goodIn_sub (fun _ h => List.mem_append_left _ (List.mem_append_right _ h)) (by decide +kernel))
set_option maxRecDepth 20000 in
theorem gL_law_L_set : GoodIn wsL_law (va_wsS RL 100 yL_set wsL_set) := goodIn_app (goodIn_of _ (by decide +kernel)) ggL_law_L_set
set_option maxRecDepth 20000 in
theorem ggL_law_X4_set : GoodIn wsL_law wsX4_set := goodIn_r _ [414, 64, 169, 170, 171, 5, 172, 94, 95, 96, 97, 98, 99, 177, 178, 179, 180, 181, 182, 183, 184, 62, 58, 185, 186, 187, 188, 63, 57, 189, 190, 191, 192, 193, 123, 56, 194, 195, 196, 197, 65, 54, 66, 55, 556, 557, 558, 559, 560, 561, 562, 563, 564, 565, 566, 567, 568, 569, 570, 571, 572, 573, 574, 575, 576] (by decide +kernel) (by decide +kernel)
set_option maxRecDepth 20000 in
theorem gL_law_X4_set : GoodIn wsL_law (wsV RL 102 RX4 yX4_set wsX4_set) := goodIn_app (goodIn_of _ (by decide +kernel)) ggL_law_X4_set
set_option maxRecDepth 20000 in
theorem ggL_law_L_seen : GoodIn wsL_law wsL_seen := goodIn_ca (goodIn_r _ [417, 131, 418, 419, 420, 2, 421, 16, 410, 136, 137, 138, 139, 140, 141, 142, 422, 309, 310, 15, 311, 30, 33, 40, 31, 34, 551, 552, 553, 554, 555, 577, 578, 579, 580, 581, 582, 583, 584, 585, 586] (by decide +kernel) (by decide +kernel)) (goodIn_sub (fun _ h => List.mem_append_left _ (List.mem_append_right _ h)) (by decide +kernel))
set_option maxRecDepth 20000 in
theorem gL_law_L_seen : GoodIn wsL_law (va_wsS RL 103 yL_seen wsL_seen) := goodIn_app (goodIn_of _ (by decide +kernel)) ggL_law_L_seen
set_option maxRecDepth 20000 in
theorem ggL_law_X4_seen : GoodIn wsL_law wsX4_seen := goodIn_r _ [426, 123, 66, 64, 169, 170, 171, 5, 172, 94, 95, 96, 97, 98, 99, 177, 178, 179, 180, 181, 182, 183, 184, 62, 58, 185, 186, 187, 188, 63, 57, 189, 190, 191, 192, 193, 56, 194, 195, 196, 197, 65, 54, 55, 556, 557, 558, 559, 560, 561, 562, 563, 564, 565, 566, 567, 568, 569, 570, 571, 572, 573, 574, 575, 576] (by decide +kernel) (by decide +kernel)
set_option maxRecDepth 20000 in
theorem gL_law_X4_seen : GoodIn wsL_law (wsV RL 105 RX4 yX4_seen wsX4_seen) := goodIn_app (goodIn_of _ (by decide +kernel)) ggL_law_X4_seen
set_option maxRecDepth 20000 in
theorem ggL_law_L_reach : GoodIn wsL_law wsL_reach := goodIn_ca (goodIn_r _ [429, 131, 430, 431, 432, 2, 433, 16, 434, 136, 137, 138, 139, 140, 141, 142, 435, 301, 302, 15, 303, 30, 38, 156, 157, 88, 89, 551, 552, 553, 554, 555, 577, 578, 579, 580, 581, 582, 583, 584, 585, 586] (by decide +kernel) (by decide +kernel)) (goodIn_sub (fun _ h => List.mem_append_left _ (List.mem_append_right _ h)) (by decide +kernel))
set_option maxRecDepth 20000 in
theorem gL_law_L_reach : GoodIn wsL_law (va_wsS RL 106 yL_reach wsL_reach) := goodIn_app (goodIn_of _ (by decide +kernel)) ggL_law_L_reach
set_option maxRecDepth 20000 in
theorem ggL_law_X4_reach : GoodIn wsL_law wsX4_reach := goodIn_r _ [439, 63, 169, 170, 171, 5, 172, 94, 95, 96, 97, 98, 99, 177, 178, 179, 180, 181, 182, 183, 184, 62, 58, 185, 186, 187, 188, 57, 189, 190, 191, 192, 193, 64, 123, 56, 194, 195, 196, 197, 65, 54, 66, 55, 556, 557, 558, 559, 560, 561, 562, 563, 564, 565, 566, 567, 568, 569, 570, 571, 572, 573, 574, 575, 576] (by decide +kernel) (by decide +kernel)
set_option maxRecDepth 20000 in
theorem gL_law_X4_reach : GoodIn wsL_law (wsV RL 108 RX4 yX4_reach wsX4_reach) := goodIn_app (goodIn_of _ (by decide +kernel)) ggL_law_X4_reach
set_option maxRecDepth 20000 in
theorem ggL_law_L_of : GoodIn wsL_law wsL_of := goodIn_ca (goodIn_r _ [442, 131, 443, 444, 445, 2, 446, 16, 447, 448, 136, 137, 138, 139, 140, 141, 142, 449, 450, 451, 15, 452, 269, 270, 271, 272, 39, 156, 157, 453, 330, 331, 332, 33, 30, 245, 246, 247, 248, 454, 455, 456, 457, 38, 551, 552, 553, 554, 555, 577, 578, 579, 580, 581, 582, 583, 584, 585, 586] (by decide +kernel) (by decide +kernel)) (goodIn_sub (fun _ h => List.mem_append_left _ (List.mem_append_right _ h)) (by decide +kernel))
set_option maxRecDepth 20000 in
theorem gL_law_L_of : GoodIn wsL_law (va_wsS RL 109 yL_of wsL_of) := goodIn_app (goodIn_of _ (by decide +kernel)) ggL_law_L_of
set_option maxRecDepth 20000 in
theorem ggL_law_X4_of : GoodIn wsL_law wsX4_of := goodIn_r _ [461, 94, 62, 65, 54, 169, 170, 171, 5, 172, 95, 96, 97, 98, 99, 177, 178, 179, 180, 181, 182, 183, 184, 58, 185, 186, 187, 188, 63, 57, 189, 190, 191, 192, 193, 64, 123, 56, 194, 195, 196, 197, 66, 55, 278, 279, 280, 281, 556, 557, 558, 559, 560, 561, 562, 563, 564, 565, 566, 567, 568, 569, 570, 571, 572, 573, 574, 575, 576] (by decide +kernel) (by decide +kernel)
set_option maxRecDepth 20000 in
theorem gL_law_X4_of : GoodIn wsL_law (wsV RL 111 RX4 yX4_of wsX4_of) := goodIn_app (goodIn_of _ (by decide +kernel)) ggL_law_X4_of
set_option maxRecDepth 20000 in
theorem ggL_law_L_ofAtom : GoodIn wsL_law wsL_ofAtom := goodIn_ca (goodIn_r _ [464, 131, 465, 466, 467, 2, 468, 16, 469, 143, 144, 145, 146, 140, 141, 147, 470, 342, 343, 15, 344, 34, 30, 40, 33, 245, 246, 247, 248, 339, 340, 471, 472, 473, 474, 551, 552, 553, 554, 555, 577, 578, 579, 580, 581, 582, 583, 584, 585, 586] (by decide +kernel) (by decide +kernel)) (goodIn_sub (fun _ h => List.mem_append_left _ (List.mem_append_right _ h)) (by decide +kernel))
set_option maxRecDepth 20000 in
theorem gL_law_L_ofAtom : GoodIn wsL_law (va_wsS RL 112 yL_ofAtom wsL_ofAtom) := goodIn_app (goodIn_of _ (by decide +kernel)) ggL_law_L_ofAtom
set_option maxRecDepth 20000 in
theorem ggL_law_X4_ofAtom : GoodIn wsL_law wsX4_ofAtom := goodIn_r _ [478, 94, 64, 66, 55, 173, 174, 175, 5, 176, 123, 95, 96, 97, 98, 99, 177, 178, 179, 180, 181, 182, 183, 184, 62, 58, 185, 186, 187, 188, 63, 57, 189, 190, 191, 192, 193, 56, 194, 195, 196, 197, 65, 54, 556, 557, 558, 559, 560, 561, 562, 563, 564, 565, 566, 567, 568, 569, 570, 571, 572, 573, 574, 575, 576] (by decide +kernel) (by decide +kernel)
set_option maxRecDepth 20000 in
theorem gL_law_X4_ofAtom : GoodIn wsL_law (wsV RL 114 RX4 yX4_ofAtom wsX4_ofAtom) := goodIn_app (goodIn_of _ (by decide +kernel)) ggL_law_X4_ofAtom
set_option maxRecDepth 20000 in
theorem ggL_law_L_way : GoodIn wsL_law wsL_way := goodIn_ca (goodIn_r _ [481, 131, 482, 483, 484, 2, 485, 24, 16, 136, 137, 138, 139, 140, 141, 142, 143, 144, 145, 146, 147, 486, 487, 488, 23, 489, 490, 49, 339, 340, 491, 492, 493, 15, 494, 30, 35, 88, 89, 156, 157, 495, 496, 497, 498, 499, 500, 501, 502, 36, 37, 503, 504, 505, 506, 507, 508, 509, 510, 551, 552, 553, 554, 555, 577, 578, 579, 580, 581, 582, 583, 584, 585, 586, 589] (by decide +kernel) (by decide +kernel)) (goodIn_sub (fun _ h => List.mem_append_left _ (List.mem_append_right _ h)) (by decide +kernel))
set_option maxRecDepth 20000 in
theorem gL_law_L_way : GoodIn wsL_law (va_wsS RL 115 yL_way wsL_way) := goodIn_app (goodIn_of _ (by decide +kernel)) ggL_law_L_way
set_option maxRecDepth 20000 in
theorem ggL_law_X4_way : GoodIn wsL_law wsX4_way := goodIn_r _ [514, 67, 169, 170, 171, 5, 172, 94, 173, 174, 175, 176, 123, 95, 96, 97, 98, 99, 515, 516, 517, 518, 56, 519, 520, 521, 522, 57, 58, 556, 557, 558, 559, 560, 561, 562, 563, 564, 565, 566, 567, 568, 569, 570, 571, 572, 573, 574, 575, 576] (by decide +kernel) (by decide +kernel)
set_option maxRecDepth 20000 in
theorem gL_law_X4_way : GoodIn wsL_law (wsV RL 118 RX4 yX4_way wsX4_way) := goodIn_app (goodIn_of _ (by decide +kernel)) ggL_law_X4_way
set_option maxRecDepth 20000 in
theorem ggL_law_X3_count : GoodIn wsL_law wsX3_count := goodIn_r _ [526, 16, 142, 147, 527, 528, 529, 25, 410, 530, 531, 532, 15, 533, 30, 38, 534, 535, 536, 537, 538, 450, 451, 452, 269, 270, 271, 272, 39, 156, 2, 157, 539, 540, 541, 542, 159, 160, 161, 162, 163, 164, 543, 544, 545, 546, 313, 314, 315, 316, 317, 318, 551, 552, 553, 554, 555, 577, 578, 579, 580, 581, 582, 583, 584, 585, 586] (by decide +kernel) (by decide +kernel)
set_option maxRecDepth 20000 in
theorem gL_law_X3_count : GoodIn wsL_law (wsV RL 119 RX3 yX3_count wsX3_count) := goodIn_app (goodIn_of _ (by decide +kernel)) ggL_law_X3_count
set_option maxRecDepth 20000 in
theorem ggL_law_X4_count : GoodIn wsL_law wsX4_count := goodIn_r _ [550, 99, 94, 62, 123, 56, 57, 58, 385, 177, 178, 179, 5, 180, 181, 182, 183, 184, 185, 186, 187, 188, 63, 189, 190, 191, 192, 193, 64, 194, 195, 196, 197, 65, 54, 66, 55, 278, 279, 280, 281, 198, 199, 200, 201, 202, 203, 204, 205, 556, 557, 558, 559, 560, 561, 562, 563, 564, 565, 566, 567, 568, 569, 570, 571, 572, 573, 574, 575, 576] (by decide +kernel) (by decide +kernel)
set_option maxRecDepth 20000 in
theorem gL_law_X4_count : GoodIn wsL_law (wsV RL 122 RX4 yX4_count wsX4_count) := goodIn_app (goodIn_of _ (by decide +kernel)) ggL_law_X4_count
