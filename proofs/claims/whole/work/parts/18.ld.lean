set_option maxRecDepth 20000 in
theorem ggL_law_X4_shrink : GoodIn wsL_law wsX4_shrink := goodIn_r _ [277, 99, 94, 62, 177, 178, 179, 5, 180, 181, 182, 183, 184, 58, 185, 186, 187, 188, 63, 57, 189, 190, 191, 192, 193, 64, 123, 56, 194, 195, 196, 197, 65, 54, 66, 55, 278, 279, 280, 281, 253, 254, 255, 256, 210, 556, 557, 558, 559, 560, 561, 562, 563, 564, 565, 566, 567, 568, 569, 570, 571, 572, 573, 574, 575, 576] (by decide +kernel) (by decide +kernel)
set_option maxRecDepth 20000 in
theorem gL_law_X4_shrink : GoodIn wsL_law (wsV RL 88 RX4 yX4_shrink wsX4_shrink) := goodIn_app (goodIn_of _ (by decide +kernel)) ggL_law_X4_shrink
set_option maxRecDepth 20000 in
theorem ggL_law_L_copy : GoodIn wsL_law wsL_copy := goodIn_ca (goodIn_ca (goodIn_r _ [284, 131, 74, 285, 286, 287, 2, 288, 20, 16, 136, 137, 138, 139, 140, 141, 142, 79, 80, 81, 82, 83, 289, 290, 291, 19, 292, 293, 294, 295, 44, 296, 297, 298, 15, 299, 30, 33, 39, 300, 301, 302, 303, 38, 156, 157, 88, 89, 304, 305, 306, 307, 35, 308, 309, 310, 311, 40, 31, 34, 312, 313, 314, 315, 316, 317, 318, 319, 159, 160, 161, 162, 163, 164, 320, 321, 322, 323, 324, 325, 326, 327, 328, 329, 330, 331, 332, 245, 246, 247, 248, 333, 85, 86, 87, 36, 37, 334, 335, 336, 337, 338, 45, 339, 340, 341, 342, 343, 344, 345, 116, 117, 118, 346, 347, 348, 349, 350, 149, 150, 151, 152, 153, 154, 155, 158, 351, 352, 353, 354, 355, 356, 219, 220, 221, 222, 223, 224, 225, 551, 552, 553, 554, 555, 577, 578, 579, 580, 581, 582, 583, 584, 585, 586, 587, 588] (by decide +kernel) (by decide +kernel)) (goodIn_sub (fun _ h => List.mem_append_left _ (List.mem_append_right _ h)) (by decide +kernel))) (goodIn_sub (fun _ h => List.mem_append_left _ (List.mem_append_left _ (List.mem_append_right _ h))) (by decide +kernel))
set_option maxRecDepth 20000 in
theorem gL_law_L_copy : GoodIn wsL_law (va_wsS RL 89 yL_copy wsL_copy) := goodIn_app (goodIn_of _ (by decide +kernel)) ggL_law_L_copy
set_option maxRecDepth 100000 in
theorem ggL_law_X4_copy : GoodIn wsL_law wsX4_copy := goodIn_r _ [360, 65, 62, 94, 123, 68, 56, 69, 66, 169, 170, 171, 5, 172, 95, 96, 97, 98, 99, 177, 178, 179, 180, 181, 182, 183, 184, 58, 185, 186, 187, 188, 63, 57, 189, 190, 191, 192, 193, 64, 194, 195, 196, 197, 54, 55, 361, 362, 363, 364, 100, 101, 102, 103, 124, 125, 126, 127, 365, 366, 367, 368, 206, 207, 208, 209, 210, 556, 557, 558, 559, 560, 561, 562, 563, 564, 565, 566, 567, 568, 569, 570, 571, 572, 573, 574, 575, 576] rfl (by decide +kernel)
set_option maxRecDepth 20000 in
theorem gL_law_X4_copy : GoodIn wsL_law (wsV RL 91 RX4 yX4_copy wsX4_copy) := goodIn_app (goodIn_of _ (by decide +kernel)) ggL_law_X4_copy
set_option maxRecDepth 20000 in
theorem ggL_law_X3_mark : GoodIn wsL_law wsX3_mark := goodIn_r _ [372, 25, 26, 16, 373, 374, 375, 15, 376, 30, 31, 33, 377, 378, 379, 380, 34, 35, 36, 37, 38, 39, 40, 551, 552, 553, 554, 555, 577, 578, 579, 580, 581, 582, 583, 584, 585, 586] (by decide +kernel) (by decide +kernel)
set_option maxRecDepth 20000 in
theorem gL_law_X3_mark : GoodIn wsL_law (wsV RL 92 RX3 yX3_mark wsX3_mark) := goodIn_app (goodIn_of _ (by decide +kernel)) ggL_law_X3_mark
set_option maxRecDepth 20000 in
theorem ggL_law_X4_mark : GoodIn wsL_law wsX4_mark := goodIn_r _ [384, 99, 385, 59, 210, 60, 94, 61, 123, 556, 557, 558, 559, 560, 561, 562, 563, 564, 565, 566, 567, 568, 569, 570, 571, 572, 573, 574, 575, 576] (by decide +kernel) (by decide +kernel)
set_option maxRecDepth 20000 in
theorem gL_law_X4_mark : GoodIn wsL_law (wsV RL 95 RX4 yX4_mark wsX4_mark) := goodIn_app (goodIn_of _ (by decide +kernel)) ggL_law_X4_mark
set_option maxRecDepth 20000 in
theorem ggL_law_L_back : GoodIn wsL_law wsL_back := goodIn_ca (goodIn_r _ [388, 389, 390, 391, 392, 2, 393, 394, 395, 25, 16, 26, 373, 374, 375, 15, 376, 30, 31, 33, 377, 378, 379, 380, 34, 35, 36, 37, 38, 39, 40, 551, 552, 553, 554, 555, 577, 578, 579, 580, 581, 582, 583, 584, 585, 586] (by decide +kernel) (by decide +kernel)) (goodIn_sub (fun _ h => List.mem_append_right _ h) (by decide +kernel))
set_option maxRecDepth 20000 in
theorem gL_law_L_back : GoodIn wsL_law (va_wsS RL 96 yL_back wsL_back) := goodIn_app (goodIn_of _ (by decide +kernel)) ggL_law_L_back
set_option maxRecDepth 20000 in
theorem ggL_law_X4_back : GoodIn wsL_law wsX4_back := goodIn_r _ [399, 385, 59, 210, 60, 94, 61, 123, 56, 57, 58, 95, 96, 97, 5, 98, 99, 400, 401, 402, 556, 557, 558, 559, 560, 561, 562, 563, 564, 565, 566, 567, 568, 569, 570, 571, 572, 573, 574, 575, 576] (by decide +kernel) (by decide +kernel)
set_option maxRecDepth 20000 in
theorem gL_law_X4_back : GoodIn wsL_law (wsV RL 99 RX4 yX4_back wsX4_back) := goodIn_app (goodIn_of _ (by decide +kernel)) ggL_law_X4_back
