set_option maxRecDepth 20000 in
theorem lawin_29 : ∀ w ∈ wsL_law_r29, w ∈ lw_tbl := fun w h => (goodIn_p wsL_law_r29 [703, 1118, 708, 714, 718, 722] (by decide +kernel) (by decide +kernel) w h).1
set_option maxRecDepth 20000 in
theorem lawin_30 : ∀ w ∈ wsL_law_r30, w ∈ lw_tbl := fun w h => (goodIn_p wsL_law_r30 [1182, 1186, 1190, 1194, 727] (by decide +kernel) (by decide +kernel) w h).1
set_option maxRecDepth 20000 in
theorem lawin_31 : ∀ w ∈ wsL_law_r31, w ∈ lw_tbl := fun w h => (goodIn_p wsL_law_r31 [1198, 731, 735, 740, 1202, 1206] (by decide +kernel) (by decide +kernel) w h).1
set_option maxRecDepth 20000 in
theorem lawin_32 : ∀ w ∈ wsL_law_r32, w ∈ lw_tbl := fun w h => (goodIn_p wsL_law_r32 [745, 1210, 750, 1214, 754, 758] (by decide +kernel) (by decide +kernel) w h).1
set_option maxRecDepth 20000 in
theorem lawin_33 : ∀ w ∈ wsL_law_r33, w ∈ lw_tbl := fun w h => (goodIn_p wsL_law_r33 [762, 1218, 1222, 767, 771] (by decide +kernel) (by decide +kernel) w h).1
set_option maxRecDepth 20000 in
theorem lawin_34 : ∀ w ∈ wsL_law_r34, w ∈ lw_tbl := fun w h => (goodIn_p wsL_law_r34 [775, 783, 789] (by decide +kernel) (by decide +kernel) w h).1
set_option maxRecDepth 20000 in
theorem lawin_35 : ∀ w ∈ wsL_law_r35, w ∈ lw_tbl := fun w h => (goodIn_p wsL_law_r35 [803, 840, 835, 815] (by decide +kernel) (by decide +kernel) w h).1
set_option maxRecDepth 20000 in
theorem lawin_36 : ∀ w ∈ wsL_law_r36, w ∈ lw_tbl := fun w h => (goodIn_p wsL_law_r36 [820, 826, 811, 796, 831] (by decide +kernel) (by decide +kernel) w h).1
set_option maxRecDepth 20000 in
theorem lawin_37 : ∀ w ∈ wsL_law_r37, w ∈ lw_tbl := fun w h => (goodIn_p wsL_law_r37 [846, 850, 854, 858, 862] (by decide +kernel) (by decide +kernel) w h).1
set_option maxRecDepth 20000 in
theorem lawin_38 : ∀ w ∈ wsL_law_r38, w ∈ lw_tbl := fun w h => (goodIn_p wsL_law_r38 [866, 1226, 1230, 1234] (by decide +kernel) (by decide +kernel) w h).1
set_option maxRecDepth 20000 in
theorem lawin_39 : ∀ w ∈ wsL_law_r39, w ∈ lw_tbl := fun w h => (goodIn_p wsL_law_r39 [1238, 1242, 1248, 1252, 1256] (by decide +kernel) (by decide +kernel) w h).1
set_option maxRecDepth 20000 in
theorem lawin_40 : ∀ w ∈ wsL_law_r40, w ∈ lw_tbl := fun w h => (goodIn_p wsL_law_r40 [1260, 1264, 870, 873, 878, 882] (by decide +kernel) (by decide +kernel) w h).1
set_option maxRecDepth 20000 in
theorem lawin_41 : ∀ w ∈ wsL_law_r41, w ∈ lw_tbl := fun w h => (goodIn_p wsL_law_r41 [886, 1268] (by decide +kernel) (by decide +kernel) w h).1
set_option maxRecDepth 20000 in
theorem lawin_X7 : ∀ w ∈ wsX70, w ∈ lw_tbl := by decide +kernel
set_option maxRecDepth 20000 in
theorem lawin_X8 : ∀ w ∈ wsX80, w ∈ lw_tbl := by decide +kernel
set_option maxRecDepth 20000 in
theorem lawin_X6 : ∀ w ∈ wsX60, w ∈ lw_tbl := by decide +kernel
set_option maxRecDepth 20000 in
theorem lawin_X4 : ∀ w ∈ wsX40, w ∈ lw_tbl := by decide +kernel
set_option maxRecDepth 20000 in
theorem lawin_X1 : ∀ w ∈ wsX10, w ∈ lw_tbl := by decide +kernel
set_option maxRecDepth 20000 in
theorem lawin_X5 : ∀ w ∈ wsX50, w ∈ lw_tbl := by decide +kernel
set_option maxRecDepth 20000 in
theorem lawin_X3 : ∀ w ∈ wsX30, w ∈ lw_tbl := by decide +kernel
set_option maxRecDepth 20000 in
theorem lawin_X2 : ∀ w ∈ wsX20, w ∈ lw_tbl := by decide +kernel
set_option maxRecDepth 20000 in
theorem wsL_law_in : ∀ w ∈ wsL_law, w ∈ lw_tbl := List.forall_mem_append.mpr ⟨List.forall_mem_append.mpr ⟨List.forall_mem_append.mpr ⟨List.forall_mem_append.mpr ⟨List.forall_mem_append.mpr ⟨List.forall_mem_append.mpr ⟨List.forall_mem_append.mpr ⟨List.forall_mem_append.mpr ⟨List.forall_mem_append.mpr ⟨List.forall_mem_append.mpr ⟨lawin_1, List.forall_mem_append.mpr ⟨lawin_2, List.forall_mem_append.mpr ⟨lawin_3, List.forall_mem_append.mpr ⟨lawin_4, List.forall_mem_append.mpr ⟨lawin_5, List.forall_mem_append.mpr ⟨lawin_6, List.forall_mem_append.mpr ⟨lawin_7, List.forall_mem_append.mpr ⟨lawin_8, List.forall_mem_append.mpr ⟨lawin_9, List.forall_mem_append.mpr ⟨lawin_10, List.forall_mem_append.mpr ⟨lawin_11, List.forall_mem_append.mpr ⟨lawin_12, List.forall_mem_append.mpr ⟨lawin_13, List.forall_mem_append.mpr ⟨lawin_14, List.forall_mem_append.mpr ⟨lawin_15, List.forall_mem_append.mpr ⟨lawin_16, List.forall_mem_append.mpr ⟨lawin_17, List.forall_mem_append.mpr ⟨lawin_18, List.forall_mem_append.mpr ⟨lawin_19, List.forall_mem_append.mpr ⟨lawin_20, List.forall_mem_append.mpr ⟨lawin_21, List.forall_mem_append.mpr ⟨lawin_22, List.forall_mem_append.mpr ⟨lawin_23, List.forall_mem_append.mpr ⟨lawin_24, List.forall_mem_append.mpr ⟨lawin_25, List.forall_mem_append.mpr ⟨lawin_26, List.forall_mem_append.mpr ⟨lawin_27, List.forall_mem_append.mpr ⟨lawin_28, List.forall_mem_append.mpr ⟨lawin_29, List.forall_mem_append.mpr ⟨lawin_30, List.forall_mem_append.mpr ⟨lawin_31, List.forall_mem_append.mpr ⟨lawin_32, List.forall_mem_append.mpr ⟨lawin_33, List.forall_mem_append.mpr ⟨lawin_34, List.forall_mem_append.mpr ⟨lawin_35, List.forall_mem_append.mpr ⟨lawin_36, List.forall_mem_append.mpr ⟨lawin_37, List.forall_mem_append.mpr ⟨lawin_38, List.forall_mem_append.mpr ⟨lawin_39, List.forall_mem_append.mpr ⟨lawin_40, lawin_41⟩⟩⟩⟩⟩⟩⟩⟩⟩⟩⟩⟩⟩⟩⟩⟩⟩⟩⟩⟩⟩⟩⟩⟩⟩⟩⟩⟩⟩⟩⟩⟩⟩⟩⟩⟩⟩⟩⟩⟩, lawin_X7⟩, lawin_X8⟩, lawin_X6⟩, lawin_X4⟩, lawin_X1⟩, lawin_X5⟩, lawin_X3⟩, lawin_X2⟩, fun _ h => absurd h List.not_mem_nil⟩
