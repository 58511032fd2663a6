set_option maxRecDepth 20000 in
theorem ggL_law_L_has : GoodIn wsL_law wsL_has := goodIn_ca (goodIn_r _ [130, 131, 132, 133, 134, 2, 135, 16, 136, 137, 138, 139, 140, 141, 142, 143, 144, 145, 146, 147, 148, 149, 150, 15, 151, 35, 152, 153, 154, 155, 30, 39, 40, 156, 157, 158, 159, 160, 161, 162, 163, 164, 551, 552, 553, 554, 555, 577, 578, 579, 580, 581, 582, 583, 584, 585, 586] (by decide +kernel) (by decide +kernel)) (goodIn_sub (fun _ h => List.mem_append_left _ (List.mem_append_right _ h)) (by decide +kernel))
set_option maxRecDepth 20000 in
theorem gL_law_L_has : GoodIn wsL_law (va_wsS RL 75 yL_has wsL_has) := goodIn_app (goodIn_of _ (by decide +kernel)) ggL_law_L_has
set_option maxRecDepth 20000 in
theorem ggL_law_X4_has : GoodIn wsL_law wsX4_has := goodIn_r _ [168, 56, 169, 170, 171, 5, 172, 94, 173, 174, 175, 176, 123, 95, 96, 97, 98, 99, 177, 178, 179, 180, 181, 182, 183, 184, 62, 58, 185, 186, 187, 188, 63, 57, 189, 190, 191, 192, 193, 64, 194, 195, 196, 197, 65, 54, 66, 55, 198, 199, 200, 201, 202, 203, 204, 205, 206, 207, 208, 209, 210, 556, 557, 558, 559, 560, 561, 562, 563, 564, 565, 566, 567, 568, 569, 570, 571, 572, 573, 574, 575, 576] (by decide +kernel) (by decide +kernel)
set_option maxRecDepth 20000 in
theorem gL_law_X4_has : GoodIn wsL_law (wsV RL 78 RX4 yX4_has wsX4_has) := goodIn_app (goodIn_of _ (by decide +kernel)) ggL_law_X4_has
set_option maxRecDepth 20000 in
theorem ggL_law_L_includes : GoodIn wsL_law wsL_includes := goodIn_ca (goodIn_r _ [213, 131, 214, 215, 216, 2, 217, 16, 136, 137, 138, 139, 140, 141, 142, 218, 219, 220, 15, 221, 36, 88, 89, 222, 223, 224, 225, 39, 40, 156, 157, 152, 153, 154, 155, 30, 158, 159, 160, 161, 162, 163, 164, 551, 552, 553, 554, 555, 577, 578, 579, 580, 581, 582, 583, 584, 585, 586] (by decide +kernel) (by decide +kernel)) (goodIn_sub (fun _ h => List.mem_append_left _ (List.mem_append_right _ h)) (by decide +kernel))
set_option maxRecDepth 20000 in
theorem gL_law_L_includes : GoodIn wsL_law (va_wsS RL 79 yL_includes wsL_includes) := goodIn_app (goodIn_of _ (by decide +kernel)) ggL_law_L_includes
set_option maxRecDepth 20000 in
theorem ggL_law_X4_includes : GoodIn wsL_law wsX4_includes := goodIn_r _ [229, 57, 169, 170, 171, 5, 172, 94, 95, 96, 97, 98, 99, 177, 178, 179, 180, 181, 182, 183, 184, 62, 58, 185, 186, 187, 188, 63, 189, 190, 191, 192, 193, 64, 123, 56, 194, 195, 196, 197, 65, 54, 66, 55, 198, 199, 200, 201, 202, 203, 204, 205, 206, 207, 208, 209, 210, 556, 557, 558, 559, 560, 561, 562, 563, 564, 565, 566, 567, 568, 569, 570, 571, 572, 573, 574, 575, 576] (by decide +kernel) (by decide +kernel)
set_option maxRecDepth 20000 in
theorem gL_law_X4_includes : GoodIn wsL_law (wsV RL 81 RX4 yX4_includes wsX4_includes) := goodIn_app (goodIn_of _ (by decide +kernel)) ggL_law_X4_includes
set_option maxRecDepth 20000 in
theorem ggL_law_L_one : GoodIn wsL_law wsL_one := goodIn_ca (goodIn_r _ [232, 131, 233, 234, 235, 2, 236, 16, 136, 137, 138, 139, 140, 141, 142, 237, 238, 239, 15, 240, 37, 38, 88, 89, 241, 242, 243, 244, 245, 246, 247, 248, 30, 222, 223, 224, 225, 39, 40, 156, 157, 152, 153, 154, 155, 158, 159, 160, 161, 162, 163, 164, 551, 552, 553, 554, 555, 577, 578, 579, 580, 581, 582, 583, 584, 585, 586] (by decide +kernel) (by decide +kernel)) (goodIn_sub (fun _ h => List.mem_append_left _ (List.mem_append_right _ h)) (by decide +kernel))
set_option maxRecDepth 20000 in
theorem gL_law_L_one : GoodIn wsL_law (va_wsS RL 82 yL_one wsL_one) := goodIn_app (goodIn_of _ (by decide +kernel)) ggL_law_L_one
set_option maxRecDepth 20000 in
theorem ggL_law_X4_one : GoodIn wsL_law wsX4_one := goodIn_r _ [252, 169, 170, 171, 5, 172, 94, 95, 96, 97, 98, 99, 177, 178, 179, 180, 181, 182, 183, 184, 62, 58, 185, 186, 187, 188, 63, 57, 189, 190, 191, 192, 193, 64, 123, 56, 194, 195, 196, 197, 65, 54, 66, 55, 198, 199, 200, 201, 202, 203, 204, 205, 253, 254, 255, 256, 210, 556, 557, 558, 559, 560, 561, 562, 563, 564, 565, 566, 567, 568, 569, 570, 571, 572, 573, 574, 575, 576] (by decide +kernel) (by decide +kernel)
set_option maxRecDepth 20000 in
theorem gL_law_X4_one : GoodIn wsL_law (wsV RL 84 RX4 yX4_one wsX4_one) := goodIn_app (goodIn_of _ (by decide +kernel)) ggL_law_X4_one
set_option maxRecDepth 20000 in
theorem ggL_law_X3_shrink : GoodIn wsL_law wsX3_shrink := goodIn_r _ [260, 16, 261, 262, 263, 15, 264, 30, 38, 265, 266, 267, 268, 269, 270, 271, 272, 39, 156, 2, 157, 273, 238, 239, 240, 37, 88, 89, 241, 242, 243, 244, 245, 246, 247, 248, 222, 223, 224, 225, 40, 152, 153, 154, 155, 158, 159, 160, 161, 162, 163, 164, 551, 552, 553, 554, 555, 577, 578, 579, 580, 581, 582, 583, 584, 585, 586] (by decide +kernel) (by decide +kernel)
set_option maxRecDepth 20000 in
theorem gL_law_X3_shrink : GoodIn wsL_law (wsV RL 85 RX3 yX3_shrink wsX3_shrink) := goodIn_app (goodIn_of _ (by decide +kernel)) ggL_law_X3_shrink
