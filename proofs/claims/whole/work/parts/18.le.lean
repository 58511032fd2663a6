set_option maxRecDepth 20000 in
theorem ggL_law_L_set : GoodIn wsL_law wsL_set := goodIn_ca (goodIn_r _ [405, 131, 406, 407, 408, 2, 409, 16, 410, 136, 137, 138, 139, 140, 141, 142, 551, 552, 553, 554, 555, 577, 578, 579, 580, 581, 582, 583, 584, 585, 586] (by decide +kernel) (by decide +kernel)) (goodIn_sub (fun _ h => List.mem_append_left _ (List.mem_append_right _ h)) (by decide +kernel))
set_option maxRecDepth 20000 in
theorem gL_law_L_set : GoodIn wsL_law (va_wsS RL 100 yL_set wsL_set) := goodIn_app (goodIn_of _ (by decide +kernel)) ggL_law_L_set
set_option maxRecDepth 20000 in
theorem ggL_law_X4_set : GoodIn wsL_law wsX4_set := goodIn_r _ [414, 64, 169, 170, 171, 5, 172, 94, 95, 96, 97, 98, 99, 177, 178, 179, 180, 181, 182, 183, 184, 62, 58, 185, 186, 187, 188, 63, 57, 189, 190, 191, 192, 193, 123, 56, 194, 195, 196, 197, 65, 54, 66, 55, 556, 557, 558, 559, 560, 561, 562, 563, 564, 565, 566, 567, 568, 569, 570, 571, 572, 573, 574, 575, 576] (by decide +kernel) (by decide +kernel)
set_option maxRecDepth 20000 in
theorem gL_law_X4_set : GoodIn wsL_law (wsV RL 102 RX4 yX4_set wsX4_set) := goodIn_app (goodIn_of _ (by decide +kernel)) ggL_law_X4_set
set_option maxRecDepth 20000 in
theorem ggL_law_L_seen : GoodIn wsL_law wsL_seen := goodIn_ca (goodIn_r _ [417, 131, 418, 419, 420, 2, 421, 16, 410, 136, 137, 138, 139, 140, 141, 142, 422, 309, 310, 15, 311, 30, 33, 40, 31, 34, 551, 552, 553, 554, 555, 577, 578, 579, 580, 581, 582, 583, 584, 585, 586] (by decide +kernel) (by decide +kernel)) (goodIn_sub (fun _ h => List.mem_append_left _ (List.mem_append_right _ h)) (by decide +kernel))
set_option maxRecDepth 20000 in
theorem gL_law_L_seen : GoodIn wsL_law (va_wsS RL 103 yL_seen wsL_seen) := goodIn_app (goodIn_of _ (by decide +kernel)) ggL_law_L_seen
set_option maxRecDepth 20000 in
theorem ggL_law_X4_seen : GoodIn wsL_law wsX4_seen := goodIn_r _ [426, 123, 66, 64, 169, 170, 171, 5, 172, 94, 95, 96, 97, 98, 99, 177, 178, 179, 180, 181, 182, 183, 184, 62, 58, 185, 186, 187, 188, 63, 57, 189, 190, 191, 192, 193, 56, 194, 195, 196, 197, 65, 54, 55, 556, 557, 558, 559, 560, 561, 562, 563, 564, 565, 566, 567, 568, 569, 570, 571, 572, 573, 574, 575, 576] (by decide +kernel) (by decide +kernel)
set_option maxRecDepth 20000 in
theorem gL_law_X4_seen : GoodIn wsL_law (wsV RL 105 RX4 yX4_seen wsX4_seen) := goodIn_app (goodIn_of _ (by decide +kernel)) ggL_law_X4_seen
set_option maxRecDepth 20000 in
theorem ggL_law_L_reach : GoodIn wsL_law wsL_reach := goodIn_ca (goodIn_r _ [429, 131, 430, 431, 432, 2, 433, 16, 434, 136, 137, 138, 139, 140, 141, 142, 435, 301, 302, 15, 303, 30, 38, 156, 157, 88, 89, 551, 552, 553, 554, 555, 577, 578, 579, 580, 581, 582, 583, 584, 585, 586] (by decide +kernel) (by decide +kernel)) (goodIn_sub (fun _ h => List.mem_append_left _ (List.mem_append_right _ h)) (by decide +kernel))
set_option maxRecDepth 20000 in
theorem gL_law_L_reach : GoodIn wsL_law (va_wsS RL 106 yL_reach wsL_reach) := goodIn_app (goodIn_of _ (by decide +kernel)) ggL_law_L_reach
set_option maxRecDepth 20000 in
theorem ggL_law_X4_reach : GoodIn wsL_law wsX4_reach := goodIn_r _ [439, 63, 169, 170, 171, 5, 172, 94, 95, 96, 97, 98, 99, 177, 178, 179, 180, 181, 182, 183, 184, 62, 58, 185, 186, 187, 188, 57, 189, 190, 191, 192, 193, 64, 123, 56, 194, 195, 196, 197, 65, 54, 66, 55, 556, 557, 558, 559, 560, 561, 562, 563, 564, 565, 566, 567, 568, 569, 570, 571, 572, 573, 574, 575, 576] (by decide +kernel) (by decide +kernel)
set_option maxRecDepth 20000 in
theorem gL_law_X4_reach : GoodIn wsL_law (wsV RL 108 RX4 yX4_reach wsX4_reach) := goodIn_app (goodIn_of _ (by decide +kernel)) ggL_law_X4_reach
set_option maxRecDepth 20000 in
theorem ggL_law_L_of : GoodIn wsL_law wsL_of := goodIn_ca (goodIn_r _ [442, 131, 443, 444, 445, 2, 446, 16, 447, 448, 136, 137, 138, 139, 140, 141, 142, 449, 450, 451, 15, 452, 269, 270, 271, 272, 39, 156, 157, 453, 330, 331, 332, 33, 30, 245, 246, 247, 248, 454, 455, 456, 457, 38, 551, 552, 553, 554, 555, 577, 578, 579, 580, 581, 582, 583, 584, 585, 586] (by decide +kernel) (by decide +kernel)) (goodIn_sub (fun _ h => List.mem_append_left _ (List.mem_append_right _ h)) (by decide +kernel))
set_option maxRecDepth 20000 in
theorem gL_law_L_of : GoodIn wsL_law (va_wsS RL 109 yL_of wsL_of) := goodIn_app (goodIn_of _ (by decide +kernel)) ggL_law_L_of
