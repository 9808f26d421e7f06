set_option maxRecDepth 20000 in
theorem lawin_15 : ∀ w ∈ wsL_law_r15, w ∈ lw_tbl := fun w h => (goodIn_p wsL_law_r15 [484, 488, 492, 496, 500, 504] (by decide +kernel) (by decide +kernel) w h).1
set_option maxRecDepth 20000 in
theorem lawin_16 : ∀ w ∈ wsL_law_r16, w ∈ lw_tbl := fun w h => (goodIn_p wsL_law_r16 [508, 514, 518, 522, 1071] (by decide +kernel) (by decide +kernel) w h).1
set_option maxRecDepth 20000 in
theorem lawin_17 : ∀ w ∈ wsL_law_r17, w ∈ lw_tbl := fun w h => (goodIn_p wsL_law_r17 [1075, 1079, 1083, 1086, 526, 530] (by decide +kernel) (by decide +kernel) w h).1
set_option maxRecDepth 20000 in
theorem lawin_18 : ∀ w ∈ wsL_law_r18, w ∈ lw_tbl := fun w h => (goodIn_p wsL_law_r18 [535, 1090, 539, 543, 547] (by decide +kernel) (by decide +kernel) w h).1
set_option maxRecDepth 20000 in
theorem lawin_19 : ∀ w ∈ wsL_law_r19, w ∈ lw_tbl := fun w h => (goodIn_p wsL_law_r19 [551, 554, 558, 563, 570] (by decide +kernel) (by decide +kernel) w h).1
set_option maxRecDepth 20000 in
theorem lawin_20 : ∀ w ∈ wsL_law_r20, w ∈ lw_tbl := fun w h => (goodIn_p wsL_law_r20 [574, 578, 582, 586, 591, 595] (by decide +kernel) (by decide +kernel) w h).1
set_option maxRecDepth 20000 in
theorem lawin_21 : ∀ w ∈ wsL_law_r21, w ∈ lw_tbl := fun w h => (goodIn_p wsL_law_r21 [603, 607, 612, 616, 620] (by decide +kernel) (by decide +kernel) w h).1
set_option maxRecDepth 20000 in
theorem lawin_22 : ∀ w ∈ wsL_law_r22, w ∈ lw_tbl := fun w h => (goodIn_p wsL_law_r22 [624, 629, 633, 637] (by decide +kernel) (by decide +kernel) w h).1
set_option maxRecDepth 20000 in
theorem lawin_23 : ∀ w ∈ wsL_law_r23, w ∈ lw_tbl := fun w h => (goodIn_p wsL_law_r23 [646, 650, 654, 658, 663, 667] (by decide +kernel) (by decide +kernel) w h).1
set_option maxRecDepth 20000 in
theorem lawin_24 : ∀ w ∈ wsL_law_r24, w ∈ lw_tbl := fun w h => (goodIn_p wsL_law_r24 [671, 675, 678, 682, 686, 1130] (by decide +kernel) (by decide +kernel) w h).1
set_option maxRecDepth 20000 in
theorem lawin_25 : ∀ w ∈ wsL_law_r25, w ∈ lw_tbl := fun w h => (goodIn_p wsL_law_r25 [1134, 1138, 1142, 1146, 1098, 1102] (by decide +kernel) (by decide +kernel) w h).1
set_option maxRecDepth 20000 in
theorem lawin_26 : ∀ w ∈ wsL_law_r26, w ∈ lw_tbl := fun w h => (goodIn_p wsL_law_r26 [1150, 1154, 1158, 1162, 1110, 1114] (by decide +kernel) (by decide +kernel) w h).1
set_option maxRecDepth 20000 in
theorem lawin_27 : ∀ w ∈ wsL_law_r27, w ∈ lw_tbl := fun w h => (goodIn_p wsL_law_r27 [1126, 1166, 1122, 1170, 1174, 1178] (by decide +kernel) (by decide +kernel) w h).1
set_option maxRecDepth 20000 in
theorem lawin_28 : ∀ w ∈ wsL_law_r28, w ∈ lw_tbl := fun w h => (goodIn_p wsL_law_r28 [690, 1094, 695, 699, 1106] (by decide +kernel) (by decide +kernel) w h).1
