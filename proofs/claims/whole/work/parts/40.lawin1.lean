set_option maxRecDepth 20000 in
theorem lawin_1 : ∀ w ∈ wsL_law_r1, w ∈ lw_tbl := fun w h => (goodIn_p wsL_law_r1 [90, 93] (by decide +kernel) (by decide +kernel) w h).1
set_option maxRecDepth 20000 in
theorem lawin_2 : ∀ w ∈ wsL_law_r2, w ∈ lw_tbl := fun w h => (goodIn_p wsL_law_r2 [98] (by decide +kernel) (by decide +kernel) w h).1
set_option maxRecDepth 20000 in
theorem lawin_3 : ∀ w ∈ wsL_law_r3, w ∈ lw_tbl := fun w h => (goodIn_p wsL_law_r3 [125, 129, 168, 187] (by decide +kernel) (by decide +kernel) w h).1
set_option maxRecDepth 20000 in
theorem lawin_4 : ∀ w ∈ wsL_law_r4, w ∈ lw_tbl := fun w h => (goodIn_p wsL_law_r4 [212, 258] (by decide +kernel) (by decide +kernel) w h).1
set_option maxRecDepth 20000 in
theorem lawin_5 : ∀ w ∈ wsL_law_r5, w ∈ lw_tbl := fun w h => (goodIn_p wsL_law_r5 [891] (by decide +kernel) (by decide +kernel) w h).1
set_option maxRecDepth 20000 in
theorem lawin_6 : ∀ w ∈ wsL_law_r6, w ∈ lw_tbl := fun w h => (goodIn_p wsL_law_r6 [] (by decide +kernel) (by decide +kernel) w h).1
set_option maxRecDepth 20000 in
theorem lawin_7 : ∀ w ∈ wsL_law_r7, w ∈ lw_tbl := fun w h => (goodIn_p wsL_law_r7 [328, 332, 336, 340, 344] (by decide +kernel) (by decide +kernel) w h).1
set_option maxRecDepth 20000 in
theorem lawin_8 : ∀ w ∈ wsL_law_r8, w ∈ lw_tbl := fun w h => (goodIn_p wsL_law_r8 [348, 351, 355, 358, 362, 366] (by decide +kernel) (by decide +kernel) w h).1
set_option maxRecDepth 20000 in
theorem lawin_9 : ∀ w ∈ wsL_law_r9, w ∈ lw_tbl := fun w h => (goodIn_p wsL_law_r9 [371, 375, 379, 384, 389] (by decide +kernel) (by decide +kernel) w h).1
set_option maxRecDepth 20000 in
theorem lawin_10 : ∀ w ∈ wsL_law_r10, w ∈ lw_tbl := fun w h => (goodIn_p wsL_law_r10 [394, 398, 402, 405, 411, 414] (by decide +kernel) (by decide +kernel) w h).1
set_option maxRecDepth 20000 in
theorem lawin_11 : ∀ w ∈ wsL_law_r11, w ∈ lw_tbl := fun w h => (goodIn_p wsL_law_r11 [420, 424, 428, 1048, 1052] (by decide +kernel) (by decide +kernel) w h).1
set_option maxRecDepth 20000 in
theorem lawin_12 : ∀ w ∈ wsL_law_r12, w ∈ lw_tbl := fun w h => (goodIn_p wsL_law_r12 [1055, 432, 436, 440, 445] (by decide +kernel) (by decide +kernel) w h).1
set_option maxRecDepth 20000 in
theorem lawin_13 : ∀ w ∈ wsL_law_r13, w ∈ lw_tbl := fun w h => (goodIn_p wsL_law_r13 [1059, 450, 453, 457, 461, 466] (by decide +kernel) (by decide +kernel) w h).1
set_option maxRecDepth 20000 in
theorem lawin_14 : ∀ w ∈ wsL_law_r14, w ∈ lw_tbl := fun w h => (goodIn_p wsL_law_r14 [470, 474, 478, 1063, 1067] (by decide +kernel) (by decide +kernel) w h).1
