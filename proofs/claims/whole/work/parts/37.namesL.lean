def wsL_flat : List Cond := [.classLink RL 7 RX7, .instantiable RX7 6, .initialized RX7, .classLink RL 10 RX8, .instantiable RX8 50, .initialized RX8, .constantLong RL 78 (4294967295), .methodLink RL 9 yX7_init, .instanceMethod yX7_init, .code yX7_init cX7_init 1 none, .methodLink RX7 1 objectInit, .instanceMethod objectInit, .code objectInit ⟨#[0xb1]⟩ 1 none, .classLink RX7 7 RX6, .instantiable RX6 6, .initialized RX6, .fieldLink RX7 10 "CallGraphs" "types" "LCallGraphs$Types;", .classLink RX7 16 RX4, .instantiable RX4 11, .initialized RX4, .fieldLink RX7 21 "CallGraphs" "members" "LCallGraphs$Members;", .classLink RX7 25 RX1, .instantiable RX1 4, .initialized RX1, .fieldLink RX7 30 "CallGraphs" "choices" "LCallGraphs$Choices;", .classLink RX7 34 RX5, .instantiable RX5 6, .initialized RX5, .fieldLink RX7 37 "CallGraphs" "ops" "LCallGraphs$Ops;", .classLink RX7 41 RX3, .instantiable RX3 13, .initialized RX3, .fieldLink RX7 46 "CallGraphs" "graph" "LCallGraphs$Graph;", .classLink RX7 50 RX2, .instantiable RX2 15, .initialized RX2, .fieldLink RX7 53 "CallGraphs" "drawn" "LCallGraphs$DrawnRun;", .instanceMethod yX6_init, .code yX6_init cX6_init 1 none, .methodLink RX6 3 objectInit, .arrayClass .int, .fieldLink RX6 9 "CallGraphs$Types" "kinds" "[I", .fieldLink RX6 15 "CallGraphs$Types" "supers" "[I", .arrayClass .long, .fieldLink RX6 18 "CallGraphs$Types" "faces" "[J", .fieldLink RX6 22 "CallGraphs$Types" "above" "[J", .methodLink RX7 18 yX4_init, .instanceMethod yX4_init, .code yX4_init cX4_init 2 none, .methodLink RX4 3 objectInit, .fieldLink RX4 9 "CallGraphs$Members" "owners" "[I", .fieldLink RX4 15 "CallGraphs$Members" "sorts" "[I", .fieldLink RX4 18 "CallGraphs$Members" "byName" "[I", .fieldLink RX4 21 "CallGraphs$Members" "starts" "[I", .fieldLink RX4 24 "CallGraphs$Members" "handles" "[J", .fieldLink RX4 28 "CallGraphs$Members" "passers" "[J", .fieldLink RX4 31 "CallGraphs$Members" "types" "LCallGraphs$Types;", .methodLink RX4 35 yJ7_fill_53178, .static yJ7_fill_53178, .initialized RJ7, .code yJ7_fill_53178 cJ7_fill_53178 4 none, .methodLink RX7 27 yX1_init, .instanceMethod yX1_init, .code yX1_init cX1_init 3 none, .methodLink RX1 3 objectInit, .fieldLink RX1 9 "CallGraphs$Choices" "finds" "[I", .fieldLink RX1 15 "CallGraphs$Choices" "picks" "[I", .fieldLink RX1 18 "CallGraphs$Choices" "types" "LCallGraphs$Types;", .fieldLink RX1 22 "CallGraphs$Choices" "members" "LCallGraphs$Members;", .instanceMethod yX5_init, .code yX5_init cX5_init 1 none, .methodLink RX5 3 objectInit, .fieldLink RX5 9 "CallGraphs$Ops" "kinds" "[I", .fieldLink RX5 15 "CallGraphs$Ops" "as" "[I", .fieldLink RX5 18 "CallGraphs$Ops" "bs" "[I", .fieldLink RX5 21 "CallGraphs$Ops" "counts" "[I", .fieldLink RX5 24 "CallGraphs$Ops" "places" "[I", .methodLink RX7 43 yX3_init, .instanceMethod yX3_init, .code yX3_init cX3_init 5 none, .methodLink RX3 3 objectInit, .fieldLink RX3 9 "CallGraphs$Graph" "bags" "[J", .fieldLink RX3 15 "CallGraphs$Graph" "callees" "[J", .fieldLink RX3 18 "CallGraphs$Graph" "calls" "[J", .fieldLink RX3 21 "CallGraphs$Graph" "comes" "[J", .fieldLink RX3 24 "CallGraphs$Graph" "layers" "[J", .fieldLink RX3 27 "CallGraphs$Graph" "types" "LCallGraphs$Types;", .fieldLink RX3 31 "CallGraphs$Graph" "members" "LCallGraphs$Members;", .fieldLink RX3 35 "CallGraphs$Graph" "choices" "LCallGraphs$Choices;", .fieldLink RX3 39 "CallGraphs$Graph" "ops" "LCallGraphs$Ops;", .methodLink RX7 52 yX2_init, .instanceMethod yX2_init, .code yX2_init cX2_init 5 none, .methodLink RX2 3 objectInit, .fieldLink RX2 9 "CallGraphs$DrawnRun" "pool" "[I", .fieldLink RX2 15 "CallGraphs$DrawnRun" "bagged" "[I", .fieldLink RX2 18 "CallGraphs$DrawnRun" "bagCounts" "[I", .fieldLink RX2 21 "CallGraphs$DrawnRun" "tried" "[J", .fieldLink RX2 25 "CallGraphs$DrawnRun" "types" "LCallGraphs$Types;", .fieldLink RX2 29 "CallGraphs$DrawnRun" "members" "LCallGraphs$Members;", .fieldLink RX2 33 "CallGraphs$DrawnRun" "choices" "LCallGraphs$Choices;", .fieldLink RX2 37 "CallGraphs$DrawnRun" "ops" "LCallGraphs$Ops;", .methodLink RL 12 yX8_init, .instanceMethod yX8_init, .code yX8_init cX8_init 1 none, .methodLink RX8 1 objectInit, .fieldLink RX8 7 "CallGraphsModel" "kindOf" "[I", .fieldLink RX8 13 "CallGraphsModel" "superOf" "[I", .fieldLink RX8 16 "CallGraphsModel" "faceMany" "[I", .fieldLink RX8 19 "CallGraphsModel" "faceOf" "[I", .fieldLink RX8 22 "CallGraphsModel" "typeOf" "[I", .fieldLink RX8 25 "CallGraphsModel" "nameOf" "[I", .fieldLink RX8 28 "CallGraphsModel" "sortOf" "[I", .arrayClass .boolean, .fieldLink RX8 31 "CallGraphsModel" "isRoot" "[Z", .fieldLink RX8 35 "CallGraphsModel" "opMany" "[I", .fieldLink RX8 38 "CallGraphsModel" "opAt" "[I", .fieldLink RX8 41 "CallGraphsModel" "opKind" "[I", .fieldLink RX8 44 "CallGraphsModel" "opA" "[I", .fieldLink RX8 47 "CallGraphsModel" "opB" "[I", .fieldLink RX8 50 "CallGraphsModel" "reached" "[Z", .fieldLink RX8 53 "CallGraphsModel" "madeAt" "[Z", .fieldLink RX8 56 "CallGraphsModel" "begunAt" "[Z", .fieldLink RX8 59 "CallGraphsModel" "inBag" "[Z", .fieldLink RX8 62 "CallGraphsModel" "calls" "[Z", .fieldLink RX8 65 "CallGraphsModel" "faultMany" "[I", .fieldLink RX8 68 "CallGraphsModel" "above" "[Z", .fieldLink RX8 71 "CallGraphsModel" "underAt" "[Z", .fieldLink RX8 74 "CallGraphsModel" "left" "[Z", .fieldLink RX8 77 "CallGraphsModel" "aboveThen" "[Z", .fieldLink RX8 80 "CallGraphsModel" "withIt" "[Z", .fieldLink RX8 83 "CallGraphsModel" "comes" "[Z", .fieldLink RX8 86 "CallGraphsModel" "directly" "[Z", .fieldLink RX8 89 "CallGraphsModel" "far" "[I", .fieldLink RX8 92 "CallGraphsModel" "todo" "[I", .fieldLink RX8 95 "CallGraphsModel" "what1" "[I", .fieldLink RX8 98 "CallGraphsModel" "what2" "[I", .fieldLink RX8 101 "CallGraphsModel" "why" "[I", .fieldLink RX8 104 "CallGraphsModel" "ran" "[Z", .fieldLink RX8 107 "CallGraphsModel" "begunNow" "[Z", .fieldLink RX8 110 "CallGraphsModel" "pool" "[I", .fieldLink RX8 113 "CallGraphsModel" "bag" "[I", .fieldLink RX8 116 "CallGraphsModel" "bagMany" "[I", .fieldLink RX8 119 "CallGraphsModel" "isFresh" "Z", .methodLink RL 13 yX7_type, .instanceMethod yX7_type, .selects RX7 yX7_type yX7_type, .code yX7_type cX7_type 4 (some .int), .methodLink RX7 57 yX6_knows, .instanceMethod yX6_knows, .selects RX6 yX6_knows yX6_knows, .code yX6_knows cX6_knows 2 (some .boolean), .fieldLink RX6 25 "CallGraphs$Types" "count" "I", .methodLink RX7 61 yX6_isFace, .instanceMethod yX6_isFace, .selects RX6 yX6_isFace yX6_isFace, .code yX6_isFace cX6_isFace 2 (some .boolean), .methodLink RX7 64 yX6_size, .instanceMethod yX6_size, .selects RX6 yX6_size yX6_size, .code yX6_size cX6_size 1 (some .int), .methodLink RX7 68 yX3_forget, .instanceMethod yX3_forget, .selects RX3 yX3_forget yX3_forget, .code yX3_forget cX3_forget 1 none, .fieldLink RX3 43 "CallGraphs$Graph" "fresh" "Z", .methodLink RX7 71 yX6_add, .instanceMethod yX6_add, .selects RX6 yX6_add yX6_add, .code yX6_add cX6_add 4 (some .int), .fieldLink RX6 41 "CallGraphs$Types" "allFaces" "J", .methodLink RX6 49 yX0_with, .static yX0_with, .initialized RX0, .code yX0_with cX0_with 3 (some .long), .methodLink RX6 53 yX6_tellAbove, .instanceMethod yX6_tellAbove, .selects RX6 yX6_tellAbove yX6_tellAbove, .code yX6_tellAbove cX6_tellAbove 7 none, .methodLink RX6 35 yX0_has, .static yX0_has, .code yX0_has cX0_has 3 (some .boolean), .methodLink RX7 75 yX1_tellAll, .instanceMethod yX1_tellAll, .selects RX1 yX1_tellAll yX1_tellAll, .code yX1_tellAll cX1_tellAll 2 none, .methodLink RX1 26 yX1_tell, .instanceMethod yX1_tell, .selects RX1 yX1_tell yX1_tell, .code yX1_tell cX1_tell 7 none, .methodLink RX1 30 yX6_size, .methodLink RX1 36 yX1_leftOf, .instanceMethod yX1_leftOf, .selects RX1 yX1_leftOf yX1_leftOf, .code yX1_leftOf cX1_leftOf 10 (some .long), .constantLong RX1 93 (-1), .methodLink RX1 87 yX6_facesAbove, .instanceMethod yX6_facesAbove, .selects RX6 yX6_facesAbove yX6_facesAbove, .code yX6_facesAbove cX6_facesAbove 2 (some .long), .methodLink RX1 73 yX4_passersOf, .instanceMethod yX4_passersOf, .selects RX4 yX4_passersOf yX4_passersOf, .code yX4_passersOf cX4_passersOf 2 (some .long), .methodLink RX1 77 yX0_has, .methodLink RX1 90 yX6_above, .instanceMethod yX6_above, .selects RX6 yX6_above yX6_above, .code yX6_above cX6_above 2 (some .long), .methodLink RX1 54 yX4_named, .instanceMethod yX4_named, .selects RX4 yX4_named yX4_named, .code yX4_named cX4_named 3 (some .int), .methodLink RX1 95 yX0_with, .methodLink RX1 40 yX4_plainOnes, .instanceMethod yX4_plainOnes, .selects RX4 yX4_plainOnes yX4_plainOnes, .code yX4_plainOnes cX4_plainOnes 1 (some .long), .fieldLink RX4 45 "CallGraphs$Members" "plain" "J", .methodLink RX1 46 yX1_tellFound, .instanceMethod yX1_tellFound, .selects RX1 yX1_tellFound yX1_tellFound, .code yX1_tellFound cX1_tellFound 10 (some .int), .methodLink RX1 58 yX6_superOf, .instanceMethod yX6_superOf, .selects RX6 yX6_superOf yX6_superOf, .code yX6_superOf cX6_superOf 2 (some .int), .methodLink RX1 62 yJ13_bitCount_95d88, .static yJ13_bitCount_95d88, .initialized RJ13, .code yJ13_bitCount_95d88 cJ13_bitCount_95d88 2 (some .int), .constantLong RJ13 314 (6148914691236517205), .constantLong RJ13 316 (3689348814741910323), .constantLong RJ13 318 (1085102592571150095), .methodLink RX1 68 yX0_least, .static yX0_least, .code yX0_least cX0_least 2 (some .int), .methodLink RX0 11 yX0_nth, .static yX0_nth, .code yX0_nth cX0_nth 5 (some .int), .methodLink RX0 17 yJ13_bitCount_95d88, .methodLink RX0 23 yX0_has, .methodLink RX1 50 yX1_tellPicked, .instanceMethod yX1_tellPicked, .selects RX1 yX1_tellPicked yX1_tellPicked, .code yX1_tellPicked cX1_tellPicked 9 (some .int), .methodLink RX1 81 yX1_plainOrBare, .instanceMethod yX1_plainOrBare, .selects RX1 yX1_plainOrBare yX1_plainOrBare, .code yX1_plainOrBare cX1_plainOrBare 2 (some .int), .methodLink RX1 84 yX4_sortOf, .instanceMethod yX4_sortOf, .selects RX4 yX4_sortOf yX4_sortOf, .code yX4_sortOf cX4_sortOf 2 (some .int), .methodLink RL 17 yX8_type, .instanceMethod yX8_type, .selects RX8 yX8_type yX8_type, .code yX8_type cX8_type 3 (some .int), .fieldLink RX8 123 "CallGraphsModel" "types" "I", .fieldLink RX8 134 "CallGraphsModel" "isLaid" "Z", .methodLink RX8 141 yX8_isType, .instanceMethod yX8_isType, .selects RX8 yX8_isType yX8_isType, .code yX8_isType cX8_isType 2 (some .boolean), .methodLink RX8 127 yX8_in, .static yX8_in, .code yX8_in cX8_in 3 (some .boolean), .methodLink RL 18 yX7_face, .instanceMethod yX7_face, .selects RX7 yX7_face yX7_face, .code yX7_face cX7_face 4 (some .int), .methodLink RX7 78 yX6_hasFace, .instanceMethod yX6_hasFace, .selects RX6 yX6_hasFace yX6_hasFace, .code yX6_hasFace cX6_hasFace 3 (some .boolean), .methodLink RX7 82 yX6_countFaces, .instanceMethod yX6_countFaces, .selects RX6 yX6_countFaces yX6_countFaces, .code yX6_countFaces cX6_countFaces 2 (some .int), .methodLink RX6 29 yJ13_bitCount_95d88, .methodLink RX7 86 yX6_addFace, .instanceMethod yX6_addFace, .selects RX6 yX6_addFace yX6_addFace, .code yX6_addFace cX6_addFace 3 (some .int), .methodLink RX6 56 yX6_countFaces, .methodLink RL 21 yX8_face, .instanceMethod yX8_face, .selects RX8 yX8_face yX8_face, .code yX8_face cX8_face 4 (some .int), .methodLink RL 22 yX7_member, .instanceMethod yX7_member, .selects RX7 yX7_member yX7_member, .code yX7_member cX7_member 6 (some .int), .methodLink RX7 89 yX7_isName, .static yX7_isName, .code yX7_isName cX7_isName 1 (some .boolean), .methodLink RX7 92 yX6_kindOf, .instanceMethod yX6_kindOf, .selects RX6 yX6_kindOf yX6_kindOf, .code yX6_kindOf cX6_kindOf 2 (some .int), .methodLink RX7 95 yX4_startOf, .instanceMethod yX4_startOf, .selects RX4 yX4_startOf yX4_startOf, .code yX4_startOf cX4_startOf 2 (some .int), .methodLink RX7 98 yX4_named, .methodLink RX7 101 yX4_size, .instanceMethod yX4_size, .selects RX4 yX4_size yX4_size, .code yX4_size cX4_size 1 (some .int), .fieldLink RX4 41 "CallGraphs$Members" "count" "I", .methodLink RX7 102 yX4_add, .instanceMethod yX4_add, .selects RX4 yX4_add yX4_add, .code yX4_add cX4_add 5 (some .int), .methodLink RX4 58 yX4_addNamed, .instanceMethod yX4_addNamed, .selects RX4 yX4_addNamed yX4_addNamed, .code yX4_addNamed cX4_addNamed 5 none, .fieldLink RX4 70 "CallGraphs$Members" "plainTypes" "J", .methodLink RX4 62 yX4_isHandle, .instanceMethod yX4_isHandle, .selects RX4 yX4_isHandle yX4_isHandle, .code yX4_isHandle cX4_isHandle 2 (some .boolean), .methodLink RX4 66 yX0_with, .methodLink RX7 105 yX1_tell, .methodLink RL 26 yX8_member, .instanceMethod yX8_member, .selects RX8 yX8_member yX8_member, .code yX8_member cX8_member 5 (some .int), .fieldLink RX8 131 "CallGraphsModel" "members" "I", .methodLink RX8 145 yX8_ownOf, .instanceMethod yX8_ownOf, .selects RX8 yX8_ownOf yX8_ownOf, .code yX8_ownOf cX8_ownOf 4 (some .int), .methodLink RL 27 yX7_op, .instanceMethod yX7_op, .selects RX7 yX7_op yX7_op, .code yX7_op cX7_op 5 (some .int), .methodLink RX7 109 yX4_knows, .instanceMethod yX4_knows, .selects RX4 yX4_knows yX4_knows, .code yX4_knows cX4_knows 2 (some .boolean), .methodLink RX7 110 yX7_partsKnown, .instanceMethod yX7_partsKnown, .selects RX7 yX7_partsKnown yX7_partsKnown, .code yX7_partsKnown cX7_partsKnown 4 (some .boolean), .methodLink RX7 114 yX7_partsFit, .instanceMethod yX7_partsFit, .selects RX7 yX7_partsFit yX7_partsFit, .code yX7_partsFit cX7_partsFit 5 (some .boolean), .methodLink RX7 245 yX4_typeOf, .instanceMethod yX4_typeOf, .selects RX4 yX4_typeOf yX4_typeOf, .code yX4_typeOf cX4_typeOf 2 (some .int), .methodLink RX7 248 yX6_isNextAbove, .instanceMethod yX6_isNextAbove, .selects RX6 yX6_isNextAbove yX6_isNextAbove, .code yX6_isNextAbove cX6_isNextAbove 3 (some .boolean), .methodLink RX6 45 yX6_hasFace, .methodLink RX7 251 yX7_isBag, .static yX7_isBag, .code yX7_isBag cX7_isBag 1 (some .boolean), .methodLink RX7 254 yX4_isHandle, .methodLink RX7 118 yX4_sortOf, .methodLink RX7 121 yX5_sizeOf, .instanceMethod yX5_sizeOf, .selects RX5 yX5_sizeOf yX5_sizeOf, .code yX5_sizeOf cX5_sizeOf 2 (some .int), .methodLink RX7 124 yX5_size, .instanceMethod yX5_size, .selects RX5 yX5_size yX5_size, .code yX5_size cX5_size 1 (some .int), .fieldLink RX5 27 "CallGraphs$Ops" "count" "I", .methodLink RX7 125 yX5_add, .instanceMethod yX5_add, .selects RX5 yX5_add yX5_add, .code yX5_add cX5_add 6 (some .int), .methodLink RL 31 yX8_op, .instanceMethod yX8_op, .selects RX8 yX8_op yX8_op, .code yX8_op cX8_op 5 (some .int), .fieldLink RX8 163 "CallGraphsModel" "ops" "I", .methodLink RX8 156 yX8_isMember, .instanceMethod yX8_isMember, .selects RX8 yX8_isMember yX8_isMember, .code yX8_isMember cX8_isMember 2 (some .boolean), .methodLink RX8 159 yX8_isRightOp, .instanceMethod yX8_isRightOp, .selects RX8 yX8_isRightOp yX8_isRightOp, .code yX8_isRightOp cX8_isRightOp 5 (some .boolean), .methodLink RX8 149 yX8_isNext, .instanceMethod yX8_isNext, .selects RX8 yX8_isNext yX8_isNext, .code yX8_isNext cX8_isNext 5 (some .boolean), .methodLink RX8 153 yX8_canBeCalled, .static yX8_canBeCalled, .code yX8_canBeCalled cX8_canBeCalled 1 (some .boolean), .methodLink RL 32 yX7_root, .instanceMethod yX7_root, .selects RX7 yX7_root yX7_root, .code yX7_root cX7_root 4 (some .int), .methodLink RX7 128 yX4_isRoot, .instanceMethod yX4_isRoot, .selects RX4 yX4_isRoot yX4_isRoot, .code yX4_isRoot cX4_isRoot 2 (some .boolean), .fieldLink RX4 49 "CallGraphs$Members" "roots" "J", .methodLink RX4 52 yX0_has, .methodLink RX7 131 yX4_turnRoot, .instanceMethod yX4_turnRoot, .selects RX4 yX4_turnRoot yX4_turnRoot, .code yX4_turnRoot cX4_turnRoot 2 none, .methodLink RL 36 yX8_root, .instanceMethod yX8_root, .selects RX8 yX8_root yX8_root, .code yX8_root cX8_root 4 (some .int), .methodLink RL 37 yX7_count, .instanceMethod yX7_count, .selects RX7 yX7_count yX7_count, .code yX7_count cX7_count 2 (some .int), .methodLink RX7 134 yX3_refresh, .instanceMethod yX3_refresh, .selects RX3 yX3_refresh yX3_refresh, .code yX3_refresh cX3_refresh 3 none, .methodLink RX3 47 yX3_clear, .instanceMethod yX3_clear, .selects RX3 yX3_clear yX3_clear, .code yX3_clear cX3_clear 1 none, .fieldLink RX3 69 "CallGraphs$Graph" "reached" "J", .fieldLink RX3 73 "CallGraphs$Graph" "made" "J", .fieldLink RX3 76 "CallGraphs$Graph" "begun" "J", .methodLink RX3 63 yX4_roots, .instanceMethod yX4_roots, .selects RX4 yX4_roots yX4_roots, .code yX4_roots cX4_roots 1 (some .long), .methodLink RX3 79 yJ7_fill_d0a16, .static yJ7_fill_d0a16, .code yJ7_fill_d0a16 cJ7_fill_d0a16 5 none, .methodLink RX3 50 yX3_sizeOfAll, .instanceMethod yX3_sizeOfAll, .selects RX3 yX3_sizeOfAll yX3_sizeOfAll, .code yX3_sizeOfAll cX3_sizeOfAll 3 (some .int), .methodLink RX3 85 yJ13_bitCount_95d88, .methodLink RX3 54 yX3_serveReached, .instanceMethod yX3_serveReached, .selects RX3 yX3_serveReached yX3_serveReached, .code yX3_serveReached cX3_serveReached 4 none, .methodLink RX3 91 yX4_size, .methodLink RX3 94 yX0_has, .methodLink RX3 100 yX5_sizeOf, .methodLink RX3 106 yX5_at, .instanceMethod yX5_at, .selects RX5 yX5_at yX5_at, .code yX5_at cX5_at 3 (some .int), .methodLink RX3 110 yX3_serve, .instanceMethod yX3_serve, .selects RX3 yX3_serve yX3_serve, .code yX3_serve cX3_serve 4 none, .methodLink RX3 114 yX5_a, .instanceMethod yX5_a, .selects RX5 yX5_a yX5_a, .code yX5_a cX5_a 2 (some .int), .methodLink RX3 117 yX5_b, .instanceMethod yX5_b, .selects RX5 yX5_b yX5_b, .code yX5_b cX5_b 2 (some .int), .methodLink RX3 120 yX5_kindOf, .instanceMethod yX5_kindOf, .selects RX5 yX5_kindOf yX5_kindOf, .code yX5_kindOf cX5_kindOf 2 (some .int), .methodLink RX3 123 yX0_with, .methodLink RX3 127 yX3_begin, .instanceMethod yX3_begin, .selects RX3 yX3_begin yX3_begin, .code yX3_begin cX3_begin 7 none, .methodLink RX3 164 yX4_facesBegunWith, .instanceMethod yX4_facesBegunWith, .selects RX4 yX4_facesBegunWith yX4_facesBegunWith, .code yX4_facesBegunWith cX4_facesBegunWith 2 (some .long), .methodLink RX4 73 yX6_isFace, .methodLink RX4 78 yX6_facesAbove, .methodLink RX3 167 yX6_superOf, .methodLink RX3 170 yX4_startOf, .methodLink RX3 141 yX3_addCallee, .instanceMethod yX3_addCallee, .selects RX3 yX3_addCallee yX3_addCallee, .code yX3_addCallee cX3_addCallee 3 none, .methodLink RX3 131 yX3_serveMade, .instanceMethod yX3_serveMade, .selects RX3 yX3_serveMade yX3_serveMade, .code yX3_serveMade cX3_serveMade 5 none, .methodLink RX3 154 yX6_size, .methodLink RX3 157 yX6_isUnder, .instanceMethod yX6_isUnder, .selects RX6 yX6_isUnder yX6_isUnder, .code yX6_isUnder cX6_isUnder 3 (some .boolean), .methodLink RX3 135 yX1_choose, .instanceMethod yX1_choose, .selects RX1 yX1_choose yX1_choose, .code yX1_choose cX1_choose 6 (some .int), .methodLink RX3 144 yX1_chooseStatic, .instanceMethod yX1_chooseStatic, .selects RX1 yX1_chooseStatic yX1_chooseStatic, .code yX1_chooseStatic cX1_chooseStatic 4 (some .int), .methodLink RX3 147 yX3_serveStatic, .instanceMethod yX3_serveStatic, .selects RX3 yX3_serveStatic yX3_serveStatic, .code yX3_serveStatic cX3_serveStatic 3 none, .methodLink RX3 161 yX4_typeOf, .methodLink RX3 150 yX4_handlesOf, .instanceMethod yX4_handlesOf, .selects RX4 yX4_handlesOf yX4_handlesOf, .code yX4_handlesOf cX4_handlesOf 2 (some .long), .methodLink RX3 57 yX3_joinCalls, .instanceMethod yX3_joinCalls, .selects RX3 yX3_joinCalls yX3_joinCalls, .code yX3_joinCalls cX3_joinCalls 3 none, .methodLink RX3 60 yX3_closeCalls, .instanceMethod yX3_closeCalls, .selects RX3 yX3_closeCalls yX3_closeCalls, .code yX3_closeCalls cX3_closeCalls 3 none, .methodLink RX3 173 arraycopyName, .native arraycopyName, .static arraycopyName, .initialized "java/lang/System", .methodLink RX7 137 yX4_roots, .methodLink RX7 141 yJ13_bitCount_95d88, .methodLink RX7 147 yX3_reached, .instanceMethod yX3_reached, .selects RX3 yX3_reached yX3_reached, .code yX3_reached cX3_reached 1 (some .long), .methodLink RX7 150 yX3_madeClasses, .instanceMethod yX3_madeClasses, .selects RX3 yX3_madeClasses yX3_madeClasses, .code yX3_madeClasses cX3_madeClasses 1 (some .long), .methodLink RX7 153 yX3_begunTypes, .instanceMethod yX3_begunTypes, .selects RX3 yX3_begunTypes yX3_begunTypes, .code yX3_begunTypes cX3_begunTypes 1 (some .long), .methodLink RX7 156 yX3_countPairs, .instanceMethod yX3_countPairs, .selects RX3 yX3_countPairs yX3_countPairs, .code yX3_countPairs cX3_countPairs 3 (some .int), .methodLink RX3 187 yX5_size, .methodLink RX7 159 yX3_countFaults, .instanceMethod yX3_countFaults, .selects RX3 yX3_countFaults yX3_countFaults, .code yX3_countFaults cX3_countFaults 4 (some .int), .methodLink RX3 188 yX3_allFaultsOf, .instanceMethod yX3_allFaultsOf, .selects RX3 yX3_allFaultsOf yX3_allFaultsOf, .code yX3_allFaultsOf cX3_allFaultsOf 4 (some .int), .methodLink RX3 191 yX3_faultsOf, .instanceMethod yX3_faultsOf, .selects RX3 yX3_faultsOf yX3_faultsOf, .code yX3_faultsOf cX3_faultsOf 5 (some .int), .methodLink RX3 194 yX3_faultsOfMade, .instanceMethod yX3_faultsOfMade, .selects RX3 yX3_faultsOfMade yX3_faultsOfMade, .code yX3_faultsOfMade cX3_faultsOfMade 6 (some .int), .methodLink RX3 197 Lib.Math.min.name, .static Lib.Math.min.name, .initialized "java/lang/Math", .code Lib.Math.min.name Lib.Math.min.code 2 (some .int), .methodLink RX7 162 yX3_countRecursive, .instanceMethod yX3_countRecursive, .selects RX3 yX3_countRecursive yX3_countRecursive, .code yX3_countRecursive cX3_countRecursive 3 (some .int), .methodLink RX3 183 yX3_isRecursive, .instanceMethod yX3_isRecursive, .selects RX3 yX3_isRecursive yX3_isRecursive, .code yX3_isRecursive cX3_isRecursive 2 (some .boolean), .methodLink RL 41 yX8_count, .instanceMethod yX8_count, .selects RX8 yX8_count yX8_count, .code yX8_count cX8_count 2 (some .int), .methodLink RX8 217 yX8_freshen, .instanceMethod yX8_freshen, .selects RX8 yX8_freshen yX8_freshen, .code yX8_freshen cX8_freshen 3 none, .fieldLink RX8 186 "CallGraphsModel" "grew" "Z", .methodLink RX8 208 yX8_follow, .instanceMethod yX8_follow, .selects RX8 yX8_follow yX8_follow, .code yX8_follow cX8_follow 7 none, .methodLink RX8 201 yX8_beginBy, .instanceMethod yX8_beginBy, .selects RX8 yX8_beginBy yX8_beginBy, .code yX8_beginBy cX8_beginBy 5 none, .methodLink RX8 192 yX8_findWith, .instanceMethod yX8_findWith, .selects RX8 yX8_findWith yX8_findWith, .code yX8_findWith cX8_findWith 3 none, .methodLink RX8 166 yX8_isUnder, .instanceMethod yX8_isUnder, .selects RX8 yX8_isUnder yX8_isUnder, .code yX8_isUnder cX8_isUnder 5 (some .boolean), .methodLink RX8 137 yX8_lookUp, .instanceMethod yX8_lookUp, .selects RX8 yX8_lookUp yX8_lookUp, .code yX8_lookUp cX8_lookUp 4 none, .methodLink RX8 183 yX8_hasPlain, .instanceMethod yX8_hasPlain, .selects RX8 yX8_hasPlain yX8_hasPlain, .code yX8_hasPlain cX8_hasPlain 4 (some .boolean), .methodLink RX8 195 yX8_call, .instanceMethod yX8_call, .selects RX8 yX8_call yX8_call, .code yX8_call cX8_call 3 none, .methodLink RX8 189 yX8_reach, .instanceMethod yX8_reach, .selects RX8 yX8_reach yX8_reach, .code yX8_reach cX8_reach 2 none, .methodLink RX8 204 yX8_callAll, .instanceMethod yX8_callAll, .selects RX8 yX8_callAll yX8_callAll, .code yX8_callAll cX8_callAll 8 none, .methodLink RX8 173 yX8_find, .instanceMethod yX8_find, .selects RX8 yX8_find yX8_find, .code yX8_find cX8_find 8 (some .int), .methodLink RX8 169 yX8_findLeft, .instanceMethod yX8_findLeft, .selects RX8 yX8_findLeft yX8_findLeft, .code yX8_findLeft cX8_findLeft 7 none, .methodLink RX8 176 yX8_choose, .instanceMethod yX8_choose, .selects RX8 yX8_choose yX8_choose, .code yX8_choose cX8_choose 6 (some .int), .methodLink RX8 198 yX8_fault, .instanceMethod yX8_fault, .selects RX8 yX8_fault yX8_fault, .code yX8_fault cX8_fault 3 none, .methodLink RX8 179 yX8_chosenOf, .instanceMethod yX8_chosenOf, .selects RX8 yX8_chosenOf yX8_chosenOf, .code yX8_chosenOf cX8_chosenOf 5 (some .int), .methodLink RX8 211 yX8_findComes, .instanceMethod yX8_findComes, .selects RX8 yX8_findComes yX8_findComes, .code yX8_findComes cX8_findComes 5 none, .methodLink RX8 220 yX8_countIn, .instanceMethod yX8_countIn, .selects RX8 yX8_countIn yX8_countIn, .code yX8_countIn cX8_countIn 4 (some .int), .methodLink RX8 214 yX8_isRecursive, .instanceMethod yX8_isRecursive, .selects RX8 yX8_isRecursive yX8_isRecursive, .code yX8_isRecursive cX8_isRecursive 2 (some .boolean), .methodLink RL 42 yX7_under, .instanceMethod yX7_under, .selects RX7 yX7_under yX7_under, .code yX7_under cX7_under 3 (some .int), .methodLink RX7 165 yX6_isUnder, .methodLink RL 45 yX8_under, .instanceMethod yX8_under, .selects RX8 yX8_under yX8_under, .code yX8_under cX8_under 3 (some .int), .methodLink RL 46 yX7_found, .instanceMethod yX7_found, .selects RX7 yX7_found yX7_found, .code yX7_found cX7_found 3 (some .int), .methodLink RX7 168 yX1_find, .instanceMethod yX1_find, .selects RX1 yX1_find yX1_find, .code yX1_find cX1_find 3 (some .int), .methodLink RL 49 yX8_found, .instanceMethod yX8_found, .selects RX8 yX8_found yX8_found, .code yX8_found cX8_found 3 (some .int), .methodLink RL 50 yX7_chosen, .instanceMethod yX7_chosen, .selects RX7 yX7_chosen yX7_chosen, .code yX7_chosen cX7_chosen 4 (some .int), .methodLink RX7 171 yX1_choose, .methodLink RL 53 yX8_chosen, .instanceMethod yX8_chosen, .selects RX8 yX8_chosen yX8_chosen, .code yX8_chosen cX8_chosen 4 (some .int), .methodLink RL 54 yX7_about, .instanceMethod yX7_about, .selects RX7 yX7_about yX7_about, .code yX7_about cX7_about 3 (some .int), .methodLink RX7 174 yX0_has, .methodLink RX7 180 yX3_isRecursive, .methodLink RX7 183 yX3_callersOf, .instanceMethod yX3_callersOf, .selects RX3 yX3_callersOf yX3_callersOf, .code yX3_callersOf cX3_callersOf 2 (some .long), .methodLink RX3 179 yX3_callersOfAny, .instanceMethod yX3_callersOfAny, .selects RX3 yX3_callersOfAny yX3_callersOfAny, .code yX3_callersOfAny cX3_callersOfAny 6 (some .long), .methodLink RX7 187 yX3_ringOf, .instanceMethod yX3_ringOf, .selects RX3 yX3_ringOf yX3_ringOf, .code yX3_ringOf cX3_ringOf 5 (some .long), .methodLink RX7 190 yX0_least, .methodLink RL 57 yX8_about, .instanceMethod yX8_about, .selects RX8 yX8_about yX8_about, .code yX8_about cX8_about 6 (some .int), .methodLink RX8 227 yX8_isRing, .instanceMethod yX8_isRing, .selects RX8 yX8_isRing yX8_isRing, .code yX8_isRing cX8_isRing 3 (some .boolean), .methodLink RX8 230 yX8_callersOf, .instanceMethod yX8_callersOf, .selects RX8 yX8_callersOf yX8_callersOf, .code yX8_callersOf cX8_callersOf 5 (some .int), .methodLink RX8 224 yX8_isCallee, .instanceMethod yX8_isCallee, .selects RX8 yX8_isCallee yX8_isCallee, .code yX8_isCallee cX8_isCallee 3 (some .boolean), .methodLink RL 58 yX7_made, .instanceMethod yX7_made, .selects RX7 yX7_made yX7_made, .code yX7_made cX7_made 3 (some .int), .methodLink RL 61 yX8_made, .instanceMethod yX8_made, .selects RX8 yX8_made yX8_made, .code yX8_made cX8_made 3 (some .int), .methodLink RL 62 yX7_callee, .instanceMethod yX7_callee, .selects RX7 yX7_callee yX7_callee, .code yX7_callee cX7_callee 4 (some .int), .methodLink RX7 193 yX5_knows, .instanceMethod yX5_knows, .selects RX5 yX5_knows yX5_knows, .code yX5_knows cX5_knows 3 (some .boolean), .methodLink RX7 195 yX5_at, .methodLink RX7 198 yX3_calleesOf, .instanceMethod yX3_calleesOf, .selects RX3 yX3_calleesOf yX3_calleesOf, .code yX3_calleesOf cX3_calleesOf 2 (some .long), .methodLink RX7 201 yX0_nth, .methodLink RL 65 yX8_callee, .instanceMethod yX8_callee, .selects RX8 yX8_callee yX8_callee, .code yX8_callee cX8_callee 6 (some .int), .methodLink RX8 233 yX8_isOp, .instanceMethod yX8_isOp, .selects RX8 yX8_isOp yX8_isOp, .code yX8_isOp cX8_isOp 3 (some .boolean), .methodLink RL 66 yX7_faults, .instanceMethod yX7_faults, .selects RX7 yX7_faults yX7_faults, .code yX7_faults cX7_faults 4 (some .int), .methodLink RX7 205 yX3_faultsOf, .methodLink RL 69 yX8_faults, .instanceMethod yX8_faults, .selects RX8 yX8_faults yX8_faults, .code yX8_faults cX8_faults 4 (some .int), .methodLink RL 70 yX7_caller, .instanceMethod yX7_caller, .selects RX7 yX7_caller yX7_caller, .code yX7_caller cX7_caller 3 (some .int), .methodLink RL 73 yX8_caller, .instanceMethod yX8_caller, .selects RX8 yX8_caller yX8_caller, .code yX8_caller cX8_caller 4 (some .int), .methodLink RL 74 yX7_way, .instanceMethod yX7_way, .selects RX7 yX7_way yX7_way, .code yX7_way cX7_way 3 (some .int), .methodLink RX7 208 yX3_onWay, .instanceMethod yX3_onWay, .selects RX3 yX3_onWay yX3_onWay, .code yX3_onWay cX3_onWay 6 (some .int), .methodLink RX3 202 yX3_layWay, .instanceMethod yX3_layWay, .selects RX3 yX3_layWay yX3_layWay, .code yX3_layWay cX3_layWay 5 (some .int), .methodLink RX3 205 yX0_least, .methodLink RL 77 yX8_way, .instanceMethod yX8_way, .selects RX8 yX8_way yX8_way, .code yX8_way cX8_way 7 (some .int), .methodLink RX8 236 yX8_findFar, .instanceMethod yX8_findFar, .selects RX8 yX8_findFar yX8_findFar, .code yX8_findFar cX8_findFar 5 none, .methodLink RL 80 yX7_run, .instanceMethod yX7_run, .selects RX7 yX7_run yX7_run, .code yX7_run cX7_run 4 (some .int), .methodLink RX7 211 yX2_play, .instanceMethod yX2_play, .selects RX2 yX2_play yX2_play, .code yX2_play cX2_play 4 none, .fieldLink RX2 70 "CallGraphs$DrawnRun" "x" "J", .methodLink RX2 67 yX2_clear, .instanceMethod yX2_clear, .selects RX2 yX2_clear yX2_clear, .code yX2_clear cX2_clear 1 none, .fieldLink RX2 45 "CallGraphs$DrawnRun" "ran" "J", .fieldLink RX2 52 "CallGraphs$DrawnRun" "begun" "J", .fieldLink RX2 49 "CallGraphs$DrawnRun" "poolCount" "I", .fieldLink RX2 41 "CallGraphs$DrawnRun" "steps" "I", .fieldLink RX2 55 "CallGraphs$DrawnRun" "left" "I", .fieldLink RX2 58 "CallGraphs$DrawnRun" "latest" "I", .methodLink RX2 87 yJ7_fill_53178, .methodLink RX2 93 yJ7_fill_d0a16, .methodLink RX2 73 yX4_size, .methodLink RX2 79 yX4_isRoot, .methodLink RX2 83 yX2_enter, .instanceMethod yX2_enter, .selects RX2 yX2_enter yX2_enter, .code yX2_enter cX2_enter 4 none, .methodLink RX2 61 yX0_with, .methodLink RX2 100 yX5_sizeOf, .methodLink RX2 106 yX2_draw, .instanceMethod yX2_draw, .selects RX2 yX2_draw yX2_draw, .code yX2_draw cX2_draw 2 (some .int), .constantLong RX2 96 (6364136223846793005), .constantLong RX2 98 (1442695040888963407), .methodLink RX2 109 yX5_at, .methodLink RX2 113 yX2_perform, .instanceMethod yX2_perform, .selects RX2 yX2_perform yX2_perform, .code yX2_begin cX2_begin 7 none, .methodLink RX2 183 yX0_has, .methodLink RX2 187 yX6_superOf, .methodLink RX2 125 yX2_begin, .instanceMethod yX2_begin, .selects RX2 yX2_begin yX2_begin, .methodLink RX2 190 yX4_facesBegunWith, .methodLink RX2 193 yX4_startOf, .methodLink RX2 138 yX2_enterBy, .instanceMethod yX2_enterBy, .selects RX2 yX2_enterBy yX2_enterBy, .code yX2_callAny cX2_callAny 5 none, .methodLink RX2 173 yJ13_bitCount_95d88, .methodLink RX2 179 yX0_nth, .code yX2_callBagged cX2_callBagged 4 none, .code yX2_callPooled cX2_callPooled 6 none, .methodLink RX2 116 yX5_a, .methodLink RX2 161 yX6_isUnder, .methodLink RX2 167 yX2_pooledUnder, .instanceMethod yX2_pooledUnder, .selects RX2 yX2_pooledUnder yX2_pooledUnder, .code yX2_pooledUnder cX2_pooledUnder 5 (some .int), .methodLink RX2 119 yX5_b, .methodLink RX2 132 yX1_choose, .code yX2_callStatic cX2_callStatic 4 none, .methodLink RX2 170 yX4_typeOf, .code yX2_enterBy cX2_enterBy 4 none, .code yX2_perform cX2_perform 5 none, .methodLink RX2 122 yX5_kindOf, .methodLink RX2 129 yX2_callPooled, .instanceMethod yX2_callPooled, .selects RX2 yX2_callPooled yX2_callPooled, .methodLink RX2 141 yX1_chooseStatic, .methodLink RX2 144 yX2_callStatic, .instanceMethod yX2_callStatic, .selects RX2 yX2_callStatic yX2_callStatic, .methodLink RX2 147 yX2_put, .instanceMethod yX2_put, .selects RX2 yX2_put yX2_put, .code yX2_put cX2_put 5 none, .methodLink RX2 150 yX2_callBagged, .instanceMethod yX2_callBagged, .selects RX2 yX2_callBagged yX2_callBagged, .methodLink RX2 153 yX4_handlesOf, .methodLink RX2 157 yX2_callAny, .instanceMethod yX2_callAny, .selects RX2 yX2_callAny yX2_callAny, .methodLink RX7 215 yX2_steps, .instanceMethod yX2_steps, .selects RX2 yX2_steps yX2_steps, .code yX2_steps cX2_steps 1 (some .int), .methodLink RX7 218 yX2_ran, .instanceMethod yX2_ran, .selects RX2 yX2_ran yX2_ran, .code yX2_ran cX2_ran 1 (some .long), .methodLink RX7 221 yX2_poolSize, .instanceMethod yX2_poolSize, .selects RX2 yX2_poolSize yX2_poolSize, .code yX2_poolSize cX2_poolSize 1 (some .int), .methodLink RX7 224 yX2_begunTypes, .instanceMethod yX2_begunTypes, .selects RX2 yX2_begunTypes yX2_begunTypes, .code yX2_begunTypes cX2_begunTypes 1 (some .long), .methodLink RX7 225 yX2_leftCalls, .instanceMethod yX2_leftCalls, .selects RX2 yX2_leftCalls yX2_leftCalls, .code yX2_leftCalls cX2_leftCalls 1 (some .int), .methodLink RX7 228 yX2_latest, .instanceMethod yX2_latest, .selects RX2 yX2_latest yX2_latest, .code yX2_latest cX2_latest 1 (some .int), .methodLink RL 84 yX8_run, .instanceMethod yX8_run, .selects RX8 yX8_run yX8_run, .code yX8_run cX8_run 7 (some .int), .fieldLink RX8 256 "CallGraphsModel" "steps" "I", .fieldLink RX8 268 "CallGraphsModel" "pools" "I", .fieldLink RX8 259 "CallGraphsModel" "leftOut" "I", .fieldLink RX8 262 "CallGraphsModel" "latest" "I", .methodLink RX8 292 yX8_runAll, .instanceMethod yX8_runAll, .selects RX8 yX8_runAll yX8_runAll, .code yX8_runAll cX8_runAll 4 none, .fieldLink RX8 239 "CallGraphsModel" "x" "J", .fieldLink RX8 253 "CallGraphsModel" "running" "I", .fieldLink RX8 250 "CallGraphsModel" "isRight" "Z", .fieldLink RX8 247 "CallGraphsModel" "deep" "I", .methodLink RX8 265 yX8_push, .instanceMethod yX8_push, .selects RX8 yX8_push yX8_push, .code yX8_push cX8_push 4 none, .methodLink RX8 289 yX8_doNext, .instanceMethod yX8_doNext, .selects RX8 yX8_doNext yX8_doNext, .code yX8_doNext cX8_doNext 4 none, .methodLink RX8 271 yX8_draw, .instanceMethod yX8_draw, .selects RX8 yX8_draw yX8_draw, .code yX8_draw cX8_draw 2 (some .int), .constantLong RX8 243 (6364136223846793005), .constantLong RX8 245 (1442695040888963407), .methodLink RX8 280 yX8_runOp, .instanceMethod yX8_runOp, .selects RX8 yX8_runOp yX8_runOp, .code yX8_runOp cX8_runOp 7 none, .methodLink RX8 274 yX8_runAny, .instanceMethod yX8_runAny, .selects RX8 yX8_runAny yX8_runAny, .code yX8_runAny cX8_runAny 5 none, .methodLink RX8 277 yX8_runCall, .instanceMethod yX8_runCall, .selects RX8 yX8_runCall yX8_runCall, .code yX8_runCall cX8_runCall 7 none, .methodLink RX8 283 yX8_runNow, .instanceMethod yX8_runNow, .selects RX8 yX8_runNow yX8_runNow, .code yX8_runNow cX8_runNow 3 none, .methodLink RX8 286 yX8_beginNow, .instanceMethod yX8_beginNow, .selects RX8 yX8_beginNow yX8_beginNow, .code yX8_beginNow cX8_beginNow 5 none, .methodLink RL 85 yX7_holds, .instanceMethod yX7_holds, .selects RX7 yX7_holds yX7_holds, .code yX7_holds cX7_holds 3 (some .boolean), .methodLink RX7 231 yX0_within, .static yX0_within, .code yX0_within cX0_within 4 (some .boolean), .constantLong RX0 9 (-1), .methodLink RX7 235 yX2_pooledClasses, .instanceMethod yX2_pooledClasses, .selects RX2 yX2_pooledClasses yX2_pooledClasses, .code yX2_pooledClasses cX2_pooledClasses 4 (some .long), .methodLink RX7 238 yX7_callsHold, .instanceMethod yX7_callsHold, .selects RX7 yX7_callsHold yX7_callsHold, .code yX7_callsHold cX7_callsHold 2 (some .boolean), .methodLink RX7 242 yX2_triedBy, .instanceMethod yX2_triedBy, .selects RX2 yX2_triedBy yX2_triedBy, .code yX2_triedBy cX2_triedBy 2 (some .long), .methodLink RL 89 yX8_holds, .instanceMethod yX8_holds, .selects RX8 yX8_holds yX8_holds, .code yX8_holds cX8_holds 3 (some .boolean), u_lay RX7 TX7 0, u_lay RX7 TX7 1, u_lay RX7 TX7 2, u_lay RX7 TX7 3, u_lay RX7 TX7 4, u_lay RX7 TX7 5, u_lay RX8 TX8 0, u_lay RX8 TX8 1, u_lay RX8 TX8 2, u_lay RX8 TX8 3, u_lay RX8 TX8 4, u_lay RX8 TX8 5, u_lay RX8 TX8 6, u_lay RX8 TX8 7, u_lay RX8 TX8 8, u_lay RX8 TX8 9, u_lay RX8 TX8 10, u_lay RX8 TX8 11, u_lay RX8 TX8 12, u_lay RX8 TX8 13, u_lay RX8 TX8 14, u_lay RX8 TX8 15, u_lay RX8 TX8 16, u_lay RX8 TX8 17, u_lay RX8 TX8 18, u_lay RX8 TX8 19, u_lay RX8 TX8 20, u_lay RX8 TX8 21, u_lay RX8 TX8 22, u_lay RX8 TX8 23, u_lay RX8 TX8 24, u_lay RX8 TX8 25, u_lay RX8 TX8 26, u_lay RX8 TX8 27, u_lay RX8 TX8 28, u_lay RX8 TX8 29, u_lay RX8 TX8 30, u_lay RX8 TX8 31, u_lay RX8 TX8 32, u_lay RX8 TX8 33, u_lay RX8 TX8 34, u_lay RX8 TX8 35, u_lay RX8 TX8 36, u_lay RX8 TX8 37, u_lay RX8 TX8 38, u_lay RX8 TX8 39, u_lay RX8 TX8 40, u_lay RX8 TX8 41, u_lay RX8 TX8 42, u_lay RX8 TX8 43, u_lay RX8 TX8 44, u_lay RX8 TX8 45, u_lay RX8 TX8 46, u_lay RX8 TX8 47, u_lay RX8 TX8 48, u_lay RX8 TX8 49, u_lay RX6 TX6 0, u_lay RX6 TX6 1, u_lay RX6 TX6 2, u_lay RX6 TX6 3, u_lay RX6 TX6 4, u_lay RX6 TX6 5, u_lay RX4 TX4 0, u_lay RX4 TX4 1, u_lay RX4 TX4 2, u_lay RX4 TX4 3, u_lay RX4 TX4 4, u_lay RX4 TX4 5, u_lay RX4 TX4 6, u_lay RX4 TX4 7, u_lay RX4 TX4 8, u_lay RX4 TX4 9, u_lay RX4 TX4 10, u_lay RX1 TX1 0, u_lay RX1 TX1 1, u_lay RX1 TX1 2, u_lay RX1 TX1 3, u_lay RX5 TX5 0, u_lay RX5 TX5 1, u_lay RX5 TX5 2, u_lay RX5 TX5 3, u_lay RX5 TX5 4, u_lay RX5 TX5 5, u_lay RX3 TX3 0, u_lay RX3 TX3 1, u_lay RX3 TX3 2, u_lay RX3 TX3 3, u_lay RX3 TX3 4, u_lay RX3 TX3 5, u_lay RX3 TX3 6, u_lay RX3 TX3 7, u_lay RX3 TX3 8, u_lay RX3 TX3 9, u_lay RX3 TX3 10, u_lay RX3 TX3 11, u_lay RX3 TX3 12, u_lay RX2 TX2 0, u_lay RX2 TX2 1, u_lay RX2 TX2 2, u_lay RX2 TX2 3, u_lay RX2 TX2 4, u_lay RX2 TX2 5, u_lay RX2 TX2 6, u_lay RX2 TX2 7, u_lay RX2 TX2 8, u_lay RX2 TX2 9, u_lay RX2 TX2 10, u_lay RX2 TX2 11, u_lay RX2 TX2 12, u_lay RX2 TX2 13, u_lay RX2 TX2 14]
set_option maxRecDepth 100000 in
theorem wsL_flat_eq : wsL_law = wsL_flat := rfl
set_option maxRecDepth 20000 in
theorem ggL_law_X7_init : GoodIn wsL_law wsX7_init := by
  rw [wsL_flat_eq]
  exact goodIn_r _ [9, 10, 11, 12, 13, 14, 15, 16, 17, 18, 19, 20, 21, 22, 23, 24, 25, 26, 27, 28, 29, 30, 31, 32, 33, 34, 35, 36, 37, 38, 39, 40, 41, 42, 43, 44, 45, 46, 47, 48, 49, 50, 51, 52, 53, 54, 55, 56, 57, 58, 59, 60, 61, 62, 63, 64, 65, 66, 67, 68, 69, 70, 71, 72, 73, 74, 75, 76, 77, 78, 79, 80, 81, 82, 83, 84, 85, 86, 87, 88, 89, 90, 91, 92, 93, 94, 95, 96, 97, 98, 99, 100, 101, 1021, 1022, 1023, 1024, 1025, 1026, 965, 966, 967, 968, 969, 970, 1027, 1028, 1029, 1030, 1031, 1032, 1033, 1034, 1035, 1036, 1037, 1038, 1039, 1040, 1041, 1042, 1043, 1044, 1045, 1046, 1047, 1048, 1049, 1050, 1051, 1052, 1053, 1054, 1055, 1056, 1057, 1058, 1059, 1060, 1061, 1062, 1063, 1064, 1065, 1066, 1067, 1068, 1069, 1070, 1071, 1072, 1073, 1074, 1075] rfl (by decide +kernel)
set_option maxRecDepth 20000 in
theorem gL_law_X7_init : GoodIn wsL_law (wsX7_init) := ggL_law_X7_init
set_option maxRecDepth 20000 in
theorem ggL_law_X8_init : GoodIn wsL_law wsX8_init := by
  rw [wsL_flat_eq]
  exact goodIn_r _ [104, 105, 11, 12, 40, 106, 107, 108, 109, 110, 111, 112, 113, 114, 115, 116, 117, 118, 119, 120, 121, 122, 123, 124, 125, 126, 127, 128, 129, 130, 131, 132, 133, 134, 135, 136, 137, 138, 139, 140, 141, 142, 143, 971, 972, 973, 974, 975, 976, 977, 978, 979, 980, 981, 982, 983, 984, 985, 986, 987, 988, 989, 990, 991, 992, 993, 994, 995, 996, 997, 998, 999, 1000, 1001, 1002, 1003, 1004, 1005, 1006, 1007, 1008, 1009, 1010, 1011, 1012, 1013, 1014, 1015, 1016, 1017, 1018, 1019, 1020] rfl (by decide +kernel)
set_option maxRecDepth 20000 in
theorem gL_law_X8_init : GoodIn wsL_law (wsX8_init) := ggL_law_X8_init
set_option maxRecDepth 20000 in
theorem ggL_law_X7_type : GoodIn wsL_law wsX7_type := by
  rw [wsL_flat_eq]
  exact goodIn_r _ [147, 16, 32, 24, 148, 149, 150, 15, 151, 152, 153, 154, 155, 156, 41, 157, 158, 159, 160, 161, 162, 163, 31, 164, 165, 166, 167, 168, 169, 42, 170, 171, 172, 173, 174, 175, 176, 177, 178, 44, 45, 179, 180, 181, 182, 183, 184, 23, 185, 186, 187, 188, 189, 67, 68, 65, 66, 190, 191, 192, 193, 194, 195, 196, 197, 198, 199, 200, 201, 202, 19, 203, 55, 204, 205, 206, 207, 208, 209, 210, 211, 212, 52, 213, 214, 215, 216, 217, 218, 219, 220, 221, 222, 223, 224, 225, 226, 227, 228, 229, 230, 231, 232, 233, 234, 235, 236, 237, 238, 239, 240, 241, 242, 243, 244, 245, 246, 247, 248, 249, 250, 251, 252, 253, 51, 965, 966, 967, 968, 969, 970, 1021, 1022, 1023, 1024, 1025, 1026, 1048, 1049, 1050, 1051, 1052, 1053, 1054, 1055, 1056, 1057, 1058, 1059, 1060, 1038, 1039, 1040, 1041, 1027, 1028, 1029, 1030, 1031, 1032, 1033, 1034, 1035, 1036, 1037] rfl (by decide +kernel)
set_option maxRecDepth 20000 in
theorem gL_law_X7_type : GoodIn wsL_law (wsV RL 13 RX7 yX7_type wsX7_type) := goodIn_app (by
  rw [wsL_flat_eq]
  exact goodIn_r _ [144, 145, 146, 2] rfl (by decide +kernel)) ggL_law_X7_type
set_option maxRecDepth 20000 in
theorem ggL_law_X8_type : GoodIn wsL_law wsX8_type := by
  rw [wsL_flat_eq]
  exact goodIn_r _ [257, 106, 258, 107, 108, 143, 259, 260, 261, 262, 5, 263, 264, 265, 266, 971, 972, 973, 974, 975, 976, 977, 978, 979, 980, 981, 982, 983, 984, 985, 986, 987, 988, 989, 990, 991, 992, 993, 994, 995, 996, 997, 998, 999, 1000, 1001, 1002, 1003, 1004, 1005, 1006, 1007, 1008, 1009, 1010, 1011, 1012, 1013, 1014, 1015, 1016, 1017, 1018, 1019, 1020] rfl (by decide +kernel)
set_option maxRecDepth 20000 in
theorem gL_law_X8_type : GoodIn wsL_law (wsV RL 17 RX8 yX8_type wsX8_type) := goodIn_app (by
  rw [wsL_flat_eq]
  exact goodIn_r _ [254, 255, 256, 5] rfl (by decide +kernel)) ggL_law_X8_type
set_option maxRecDepth 20000 in
theorem ggL_law_X7_face : GoodIn wsL_law wsX7_face := by
  rw [wsL_flat_eq]
  exact goodIn_r _ [270, 16, 32, 24, 148, 149, 150, 15, 151, 152, 153, 154, 155, 156, 41, 271, 272, 273, 274, 44, 179, 180, 173, 181, 275, 276, 277, 278, 279, 228, 229, 230, 231, 232, 233, 161, 162, 163, 31, 164, 165, 280, 281, 282, 283, 171, 172, 174, 175, 176, 177, 178, 42, 45, 284, 182, 183, 184, 23, 185, 186, 187, 188, 189, 67, 68, 65, 66, 190, 158, 159, 160, 191, 192, 193, 194, 195, 196, 197, 198, 199, 170, 200, 201, 202, 19, 203, 55, 204, 205, 206, 207, 208, 209, 210, 211, 212, 52, 213, 214, 215, 216, 217, 218, 219, 220, 221, 222, 223, 224, 225, 226, 227, 234, 235, 236, 237, 238, 239, 240, 241, 242, 243, 244, 245, 246, 247, 248, 249, 250, 251, 252, 253, 51, 965, 966, 967, 968, 969, 970, 1021, 1022, 1023, 1024, 1025, 1026, 1048, 1049, 1050, 1051, 1052, 1053, 1054, 1055, 1056, 1057, 1058, 1059, 1060, 1038, 1039, 1040, 1041, 1027, 1028, 1029, 1030, 1031, 1032, 1033, 1034, 1035, 1036, 1037] rfl (by decide +kernel)
set_option maxRecDepth 20000 in
theorem gL_law_X7_face : GoodIn wsL_law (wsV RL 18 RX7 yX7_face wsX7_face) := goodIn_app (by
  rw [wsL_flat_eq]
  exact goodIn_r _ [267, 268, 269, 2] rfl (by decide +kernel)) ggL_law_X7_face
set_option maxRecDepth 20000 in
theorem ggL_law_X8_face : GoodIn wsL_law wsX8_face := by
  rw [wsL_flat_eq]
  exact goodIn_r _ [288, 106, 108, 109, 143, 259, 260, 261, 262, 5, 263, 258, 264, 265, 266, 971, 972, 973, 974, 975, 976, 977, 978, 979, 980, 981, 982, 983, 984, 985, 986, 987, 988, 989, 990, 991, 992, 993, 994, 995, 996, 997, 998, 999, 1000, 1001, 1002, 1003, 1004, 1005, 1006, 1007, 1008, 1009, 1010, 1011, 1012, 1013, 1014, 1015, 1016, 1017, 1018, 1019, 1020] rfl (by decide +kernel)
set_option maxRecDepth 20000 in
theorem gL_law_X8_face : GoodIn wsL_law (wsV RL 21 RX8 yX8_face wsX8_face) := goodIn_app (by
  rw [wsL_flat_eq]
  exact goodIn_r _ [285, 286, 287, 5] rfl (by decide +kernel)) ggL_law_X8_face
set_option maxRecDepth 20000 in
theorem ggL_law_X7_member : GoodIn wsL_law wsX7_member := by
  rw [wsL_flat_eq]
  exact goodIn_r _ [292, 16, 20, 32, 24, 148, 149, 150, 15, 151, 152, 293, 294, 2, 295, 296, 297, 298, 299, 41, 300, 301, 302, 19, 303, 53, 304, 210, 211, 212, 52, 305, 306, 307, 308, 309, 161, 162, 163, 31, 164, 165, 310, 311, 312, 313, 50, 51, 314, 315, 316, 317, 54, 55, 218, 318, 319, 320, 321, 322, 323, 172, 173, 174, 324, 187, 188, 23, 189, 67, 68, 65, 66, 190, 158, 159, 160, 191, 192, 193, 194, 195, 196, 197, 198, 199, 45, 170, 200, 201, 202, 203, 204, 180, 181, 205, 206, 207, 208, 209, 213, 214, 215, 216, 217, 219, 220, 221, 222, 223, 224, 225, 226, 42, 227, 228, 229, 230, 231, 232, 233, 234, 235, 236, 237, 238, 239, 240, 241, 242, 243, 244, 245, 246, 247, 248, 249, 250, 251, 252, 253, 965, 966, 967, 968, 969, 970, 1021, 1022, 1023, 1024, 1025, 1026, 1027, 1028, 1029, 1030, 1031, 1032, 1033, 1034, 1035, 1036, 1037, 1048, 1049, 1050, 1051, 1052, 1053, 1054, 1055, 1056, 1057, 1058, 1059, 1060, 1038, 1039, 1040, 1041] rfl (by decide +kernel)
set_option maxRecDepth 20000 in
theorem gL_law_X7_member : GoodIn wsL_law (wsV RL 22 RX7 yX7_member wsX7_member) := goodIn_app (by
  rw [wsL_flat_eq]
  exact goodIn_r _ [289, 290, 291, 2] rfl (by decide +kernel)) ggL_law_X7_member
set_option maxRecDepth 20000 in
theorem ggL_law_X8_member : GoodIn wsL_law wsX8_member := by
  rw [wsL_flat_eq]
  exact goodIn_r _ [328, 106, 329, 110, 111, 112, 114, 115, 143, 260, 261, 262, 5, 263, 258, 264, 265, 266, 330, 331, 332, 333, 971, 972, 973, 974, 975, 976, 977, 978, 979, 980, 981, 982, 983, 984, 985, 986, 987, 988, 989, 990, 991, 992, 993, 994, 995, 996, 997, 998, 999, 1000, 1001, 1002, 1003, 1004, 1005, 1006, 1007, 1008, 1009, 1010, 1011, 1012, 1013, 1014, 1015, 1016, 1017, 1018, 1019, 1020] rfl (by decide +kernel)
set_option maxRecDepth 20000 in
theorem gL_law_X8_member : GoodIn wsL_law (wsV RL 26 RX8 yX8_member wsX8_member) := goodIn_app (by
  rw [wsL_flat_eq]
  exact goodIn_r _ [325, 326, 327, 5] rfl (by decide +kernel)) ggL_law_X8_member
set_option maxRecDepth 20000 in
theorem ggL_law_X7_op : GoodIn wsL_law wsX7_op := by
  rw [wsL_flat_eq]
  exact goodIn_r _ [337, 20, 28, 32, 338, 339, 340, 19, 341, 309, 342, 343, 344, 2, 345, 16, 148, 149, 150, 15, 151, 152, 346, 347, 348, 349, 296, 297, 298, 299, 41, 293, 294, 295, 350, 351, 352, 353, 50, 354, 355, 356, 357, 42, 358, 272, 273, 274, 44, 179, 180, 173, 181, 359, 360, 361, 362, 320, 321, 322, 51, 363, 251, 252, 253, 364, 365, 366, 27, 367, 75, 368, 369, 370, 371, 372, 161, 162, 163, 31, 164, 165, 373, 374, 375, 376, 72, 73, 74, 76, 965, 966, 967, 968, 969, 970, 1027, 1028, 1029, 1030, 1031, 1032, 1033, 1034, 1035, 1036, 1037, 1021, 1022, 1023, 1024, 1025, 1026, 1042, 1043, 1044, 1045, 1046, 1047, 1048, 1049, 1050, 1051, 1052, 1053, 1054, 1055, 1056, 1057, 1058, 1059, 1060] rfl (by decide +kernel)
set_option maxRecDepth 20000 in
theorem gL_law_X7_op : GoodIn wsL_law (wsV RL 27 RX7 yX7_op wsX7_op) := goodIn_app (by
  rw [wsL_flat_eq]
  exact goodIn_r _ [334, 335, 336, 2] rfl (by decide +kernel)) ggL_law_X7_op
set_option maxRecDepth 20000 in
theorem ggL_law_X8_op : GoodIn wsL_law wsX8_op := by
  rw [wsL_flat_eq]
  exact goodIn_r _ [380, 112, 381, 115, 117, 118, 119, 116, 143, 382, 383, 384, 5, 385, 329, 264, 265, 266, 260, 261, 262, 263, 258, 386, 387, 388, 389, 106, 110, 390, 391, 392, 393, 107, 108, 109, 394, 395, 396, 971, 972, 973, 974, 975, 976, 977, 978, 979, 980, 981, 982, 983, 984, 985, 986, 987, 988, 989, 990, 991, 992, 993, 994, 995, 996, 997, 998, 999, 1000, 1001, 1002, 1003, 1004, 1005, 1006, 1007, 1008, 1009, 1010, 1011, 1012, 1013, 1014, 1015, 1016, 1017, 1018, 1019, 1020] rfl (by decide +kernel)
set_option maxRecDepth 20000 in
theorem gL_law_X8_op : GoodIn wsL_law (wsV RL 31 RX8 yX8_op wsX8_op) := goodIn_app (by
  rw [wsL_flat_eq]
  exact goodIn_r _ [377, 378, 379, 5] rfl (by decide +kernel)) ggL_law_X8_op
set_option maxRecDepth 20000 in
theorem ggL_law_X7_root : GoodIn wsL_law wsX7_root := by
  rw [wsL_flat_eq]
  exact goodIn_r _ [400, 20, 32, 338, 339, 340, 19, 341, 309, 363, 251, 252, 253, 51, 401, 402, 403, 404, 405, 406, 180, 173, 181, 161, 162, 163, 31, 164, 165, 407, 408, 409, 410, 965, 966, 967, 968, 969, 970, 1027, 1028, 1029, 1030, 1031, 1032, 1033, 1034, 1035, 1036, 1037, 1048, 1049, 1050, 1051, 1052, 1053, 1054, 1055, 1056, 1057, 1058, 1059, 1060] rfl (by decide +kernel)
set_option maxRecDepth 20000 in
theorem gL_law_X7_root : GoodIn wsL_law (wsV RL 32 RX7 yX7_root wsX7_root) := goodIn_app (by
  rw [wsL_flat_eq]
  exact goodIn_r _ [397, 398, 399, 2] rfl (by decide +kernel)) ggL_law_X7_root
set_option maxRecDepth 20000 in
theorem ggL_law_X8_root : GoodIn wsL_law wsX8_root := by
  rw [wsL_flat_eq]
  exact goodIn_r _ [414, 112, 114, 143, 382, 383, 384, 5, 385, 329, 264, 265, 266, 971, 972, 973, 974, 975, 976, 977, 978, 979, 980, 981, 982, 983, 984, 985, 986, 987, 988, 989, 990, 991, 992, 993, 994, 995, 996, 997, 998, 999, 1000, 1001, 1002, 1003, 1004, 1005, 1006, 1007, 1008, 1009, 1010, 1011, 1012, 1013, 1014, 1015, 1016, 1017, 1018, 1019, 1020] rfl (by decide +kernel)
set_option maxRecDepth 20000 in
theorem gL_law_X8_root : GoodIn wsL_law (wsV RL 36 RX8 yX8_root wsX8_root) := goodIn_app (by
  rw [wsL_flat_eq]
  exact goodIn_r _ [411, 412, 413, 5] rfl (by decide +kernel)) ggL_law_X8_root
set_option maxRecDepth 20000 in
theorem ggL_law_X7_count : GoodIn wsL_law wsX7_count := by
  rw [wsL_flat_eq]
  exact goodIn_r _ [418, 32, 16, 20, 28, 419, 420, 421, 31, 422, 165, 423, 424, 425, 426, 87, 427, 428, 429, 81, 82, 83, 430, 431, 432, 19, 433, 405, 434, 435, 59, 436, 437, 438, 439, 440, 441, 228, 229, 230, 231, 232, 233, 442, 443, 444, 445, 89, 446, 306, 307, 308, 309, 447, 180, 173, 181, 448, 365, 366, 27, 367, 75, 449, 450, 451, 452, 76, 453, 454, 455, 456, 88, 457, 458, 459, 460, 73, 461, 462, 463, 464, 74, 465, 466, 467, 468, 72, 469, 172, 174, 470, 471, 472, 473, 86, 474, 475, 476, 477, 56, 318, 478, 154, 155, 15, 156, 41, 479, 197, 198, 199, 45, 170, 480, 224, 225, 226, 42, 481, 301, 302, 303, 53, 482, 483, 484, 485, 486, 487, 488, 489, 490, 158, 159, 160, 152, 491, 492, 493, 494, 179, 495, 496, 497, 23, 498, 65, 68, 66, 250, 251, 252, 253, 51, 499, 500, 501, 502, 503, 504, 505, 506, 507, 351, 352, 353, 50, 508, 509, 510, 511, 54, 512, 513, 514, 515, 516, 517, 518, 519, 84, 520, 521, 522, 523, 157, 305, 368, 369, 370, 371, 372, 524, 525, 526, 527, 528, 529, 530, 531, 532, 533, 534, 535, 536, 537, 538, 539, 540, 541, 542, 543, 544, 545, 546, 547, 548, 549, 550, 551, 552, 553, 554, 555, 556, 557, 558, 559, 560, 561, 562, 563, 564, 565, 566, 567, 568, 569, 570, 965, 966, 967, 968, 969, 970, 1048, 1049, 1050, 1051, 1052, 1053, 1054, 1055, 1056, 1057, 1058, 1059, 1060, 1027, 1028, 1029, 1030, 1031, 1032, 1033, 1034, 1035, 1036, 1037, 1042, 1043, 1044, 1045, 1046, 1047, 1021, 1022, 1023, 1024, 1025, 1026, 1038, 1039, 1040, 1041] rfl (by decide +kernel)
set_option maxRecDepth 20000 in
theorem gL_law_X7_count : GoodIn wsL_law (wsV RL 37 RX7 yX7_count wsX7_count) := goodIn_app (by
  rw [wsL_flat_eq]
  exact goodIn_r _ [415, 416, 417, 2] rfl (by decide +kernel)) ggL_law_X7_count
set_option maxRecDepth 20000 in
theorem ggL_law_X8_count : GoodIn wsL_law wsX8_count := by
  rw [wsL_flat_eq]
  exact goodIn_r _ [574, 258, 329, 381, 575, 576, 577, 5, 578, 143, 120, 114, 121, 122, 123, 124, 125, 579, 115, 116, 580, 581, 582, 583, 118, 119, 117, 112, 110, 111, 584, 585, 586, 587, 130, 588, 589, 590, 591, 106, 592, 593, 594, 595, 259, 127, 126, 596, 597, 598, 599, 107, 108, 109, 600, 601, 602, 603, 330, 331, 332, 333, 604, 605, 606, 607, 608, 609, 610, 611, 612, 613, 614, 615, 616, 617, 618, 619, 128, 620, 621, 622, 623, 129, 624, 625, 626, 627, 628, 629, 630, 631, 632, 633, 634, 635, 394, 395, 396, 636, 637, 638, 639, 132, 131, 264, 265, 266, 640, 641, 642, 643, 644, 645, 646, 647, 971, 972, 973, 974, 975, 976, 977, 978, 979, 980, 981, 982, 983, 984, 985, 986, 987, 988, 989, 990, 991, 992, 993, 994, 995, 996, 997, 998, 999, 1000, 1001, 1002, 1003, 1004, 1005, 1006, 1007, 1008, 1009, 1010, 1011, 1012, 1013, 1014, 1015, 1016, 1017, 1018, 1019, 1020] rfl (by decide +kernel)
set_option maxRecDepth 20000 in
theorem gL_law_X8_count : GoodIn wsL_law (wsV RL 41 RX8 yX8_count wsX8_count) := goodIn_app (by
  rw [wsL_flat_eq]
  exact goodIn_r _ [571, 572, 573, 5] rfl (by decide +kernel)) ggL_law_X8_count
set_option maxRecDepth 20000 in
theorem ggL_law_X7_under : GoodIn wsL_law wsX7_under := by
  rw [wsL_flat_eq]
  exact goodIn_r _ [651, 16, 148, 149, 150, 15, 151, 152, 652, 492, 493, 494, 45, 179, 180, 173, 181, 965, 966, 967, 968, 969, 970, 1021, 1022, 1023, 1024, 1025, 1026] rfl (by decide +kernel)
set_option maxRecDepth 20000 in
theorem gL_law_X7_under : GoodIn wsL_law (wsV RL 42 RX7 yX7_under wsX7_under) := goodIn_app (by
  rw [wsL_flat_eq]
  exact goodIn_r _ [648, 649, 650, 2] rfl (by decide +kernel)) ggL_law_X7_under
set_option maxRecDepth 20000 in
theorem ggL_law_X8_under : GoodIn wsL_law wsX8_under := by
  rw [wsL_flat_eq]
  exact goodIn_r _ [656, 260, 261, 262, 5, 263, 258, 264, 265, 266, 592, 593, 594, 595, 259, 127, 126, 596, 597, 598, 599, 107, 108, 109, 971, 972, 973, 974, 975, 976, 977, 978, 979, 980, 981, 982, 983, 984, 985, 986, 987, 988, 989, 990, 991, 992, 993, 994, 995, 996, 997, 998, 999, 1000, 1001, 1002, 1003, 1004, 1005, 1006, 1007, 1008, 1009, 1010, 1011, 1012, 1013, 1014, 1015, 1016, 1017, 1018, 1019, 1020] rfl (by decide +kernel)
set_option maxRecDepth 20000 in
theorem gL_law_X8_under : GoodIn wsL_law (wsV RL 45 RX8 yX8_under wsX8_under) := goodIn_app (by
  rw [wsL_flat_eq]
  exact goodIn_r _ [653, 654, 655, 5] rfl (by decide +kernel)) ggL_law_X8_under
set_option maxRecDepth 20000 in
theorem ggL_law_X7_found : GoodIn wsL_law wsX7_found := by
  rw [wsL_flat_eq]
  exact goodIn_r _ [660, 16, 24, 148, 149, 150, 15, 151, 152, 293, 294, 2, 295, 661, 662, 663, 23, 664, 65, 965, 966, 967, 968, 969, 970, 1021, 1022, 1023, 1024, 1025, 1026, 1038, 1039, 1040, 1041] rfl (by decide +kernel)
set_option maxRecDepth 20000 in
theorem gL_law_X7_found : GoodIn wsL_law (wsV RL 46 RX7 yX7_found wsX7_found) := goodIn_app (by
  rw [wsL_flat_eq]
  exact goodIn_r _ [657, 658, 659, 2] rfl (by decide +kernel)) ggL_law_X7_found
set_option maxRecDepth 20000 in
theorem ggL_law_X8_found : GoodIn wsL_law wsX8_found := by
  rw [wsL_flat_eq]
  exact goodIn_r _ [668, 260, 261, 262, 5, 263, 258, 264, 265, 266, 616, 617, 618, 619, 106, 107, 329, 128, 112, 330, 331, 332, 333, 110, 111, 620, 621, 622, 623, 129, 592, 593, 594, 595, 259, 127, 126, 596, 597, 598, 599, 108, 109, 971, 972, 973, 974, 975, 976, 977, 978, 979, 980, 981, 982, 983, 984, 985, 986, 987, 988, 989, 990, 991, 992, 993, 994, 995, 996, 997, 998, 999, 1000, 1001, 1002, 1003, 1004, 1005, 1006, 1007, 1008, 1009, 1010, 1011, 1012, 1013, 1014, 1015, 1016, 1017, 1018, 1019, 1020] rfl (by decide +kernel)
set_option maxRecDepth 20000 in
theorem gL_law_X8_found : GoodIn wsL_law (wsV RL 49 RX8 yX8_found wsX8_found) := goodIn_app (by
  rw [wsL_flat_eq]
  exact goodIn_r _ [665, 666, 667, 5] rfl (by decide +kernel)) ggL_law_X8_found
set_option maxRecDepth 20000 in
theorem ggL_law_X7_chosen : GoodIn wsL_law wsX7_chosen := by
  rw [wsL_flat_eq]
  exact goodIn_r _ [672, 16, 24, 148, 149, 150, 15, 151, 152, 293, 294, 2, 295, 652, 492, 493, 494, 45, 179, 180, 173, 181, 673, 496, 497, 23, 498, 65, 68, 66, 250, 251, 252, 19, 253, 51, 965, 966, 967, 968, 969, 970, 1021, 1022, 1023, 1024, 1025, 1026, 1038, 1039, 1040, 1041, 1027, 1028, 1029, 1030, 1031, 1032, 1033, 1034, 1035, 1036, 1037] rfl (by decide +kernel)
set_option maxRecDepth 20000 in
theorem gL_law_X7_chosen : GoodIn wsL_law (wsV RL 50 RX7 yX7_chosen wsX7_chosen) := goodIn_app (by
  rw [wsL_flat_eq]
  exact goodIn_r _ [669, 670, 671, 2] rfl (by decide +kernel)) ggL_law_X7_chosen
set_option maxRecDepth 20000 in
theorem ggL_law_X8_chosen : GoodIn wsL_law wsX8_chosen := by
  rw [wsL_flat_eq]
  exact goodIn_r _ [677, 260, 261, 262, 5, 263, 258, 264, 265, 266, 592, 593, 594, 595, 259, 127, 126, 596, 597, 598, 599, 107, 108, 109, 632, 633, 634, 635, 112, 616, 617, 618, 619, 106, 329, 128, 330, 331, 332, 333, 110, 111, 620, 621, 622, 623, 129, 624, 625, 626, 627, 971, 972, 973, 974, 975, 976, 977, 978, 979, 980, 981, 982, 983, 984, 985, 986, 987, 988, 989, 990, 991, 992, 993, 994, 995, 996, 997, 998, 999, 1000, 1001, 1002, 1003, 1004, 1005, 1006, 1007, 1008, 1009, 1010, 1011, 1012, 1013, 1014, 1015, 1016, 1017, 1018, 1019, 1020] rfl (by decide +kernel)
set_option maxRecDepth 20000 in
theorem gL_law_X8_chosen : GoodIn wsL_law (wsV RL 53 RX8 yX8_chosen wsX8_chosen) := goodIn_app (by
  rw [wsL_flat_eq]
  exact goodIn_r _ [674, 675, 676, 5] rfl (by decide +kernel)) ggL_law_X8_chosen
set_option maxRecDepth 20000 in
theorem ggL_law_X7_about : GoodIn wsL_law wsX7_about := by
  rw [wsL_flat_eq]
  exact goodIn_r _ [681, 20, 32, 338, 339, 340, 19, 341, 309, 419, 420, 421, 31, 422, 165, 423, 424, 425, 426, 87, 427, 428, 429, 81, 82, 83, 430, 431, 432, 433, 405, 434, 435, 59, 436, 437, 438, 439, 440, 441, 228, 229, 230, 231, 232, 233, 442, 443, 444, 445, 89, 446, 306, 307, 308, 447, 180, 173, 181, 448, 365, 366, 27, 367, 75, 449, 450, 451, 452, 76, 453, 454, 455, 456, 88, 457, 458, 459, 460, 73, 461, 462, 463, 464, 74, 465, 466, 467, 468, 72, 469, 172, 174, 470, 471, 472, 473, 86, 474, 475, 476, 477, 56, 318, 478, 154, 155, 15, 156, 41, 479, 197, 198, 199, 45, 170, 480, 224, 225, 226, 42, 481, 301, 302, 303, 53, 482, 483, 484, 485, 486, 487, 488, 489, 490, 158, 159, 160, 152, 491, 492, 493, 494, 179, 495, 496, 497, 23, 498, 65, 68, 66, 250, 251, 252, 253, 51, 499, 500, 501, 502, 503, 504, 505, 506, 507, 351, 352, 353, 50, 508, 509, 510, 511, 54, 512, 513, 514, 515, 516, 517, 518, 519, 84, 520, 521, 522, 523, 526, 527, 528, 529, 682, 683, 568, 569, 570, 684, 685, 686, 687, 688, 689, 690, 691, 525, 692, 693, 694, 695, 696, 235, 236, 237, 238, 239, 240, 241, 965, 966, 967, 968, 969, 970, 1027, 1028, 1029, 1030, 1031, 1032, 1033, 1034, 1035, 1036, 1037, 1048, 1049, 1050, 1051, 1052, 1053, 1054, 1055, 1056, 1057, 1058, 1059, 1060, 1042, 1043, 1044, 1045, 1046, 1047, 1021, 1022, 1023, 1024, 1025, 1026, 1038, 1039, 1040, 1041] rfl (by decide +kernel)
set_option maxRecDepth 20000 in
theorem gL_law_X7_about : GoodIn wsL_law (wsV RL 54 RX7 yX7_about wsX7_about) := goodIn_app (by
  rw [wsL_flat_eq]
  exact goodIn_r _ [678, 679, 680, 2] rfl (by decide +kernel)) ggL_law_X7_about
set_option maxRecDepth 20000 in
theorem ggL_law_X8_about : GoodIn wsL_law wsX8_about := by
  rw [wsL_flat_eq]
  exact goodIn_r _ [700, 329, 120, 382, 383, 384, 5, 385, 264, 265, 266, 575, 576, 577, 578, 143, 114, 121, 122, 123, 124, 125, 579, 115, 116, 580, 581, 582, 583, 118, 119, 117, 112, 110, 111, 584, 585, 586, 587, 258, 130, 588, 589, 590, 591, 106, 592, 593, 594, 595, 259, 127, 126, 596, 597, 598, 599, 107, 108, 109, 600, 601, 602, 603, 330, 331, 332, 333, 604, 605, 606, 607, 608, 609, 610, 611, 612, 613, 614, 615, 616, 617, 618, 619, 128, 620, 621, 622, 623, 129, 624, 625, 626, 627, 628, 629, 630, 631, 632, 633, 634, 635, 394, 395, 396, 636, 637, 638, 639, 132, 131, 701, 702, 703, 704, 644, 645, 646, 647, 705, 706, 707, 708, 709, 710, 711, 712, 971, 972, 973, 974, 975, 976, 977, 978, 979, 980, 981, 982, 983, 984, 985, 986, 987, 988, 989, 990, 991, 992, 993, 994, 995, 996, 997, 998, 999, 1000, 1001, 1002, 1003, 1004, 1005, 1006, 1007, 1008, 1009, 1010, 1011, 1012, 1013, 1014, 1015, 1016, 1017, 1018, 1019, 1020] rfl (by decide +kernel)
set_option maxRecDepth 20000 in
theorem gL_law_X8_about : GoodIn wsL_law (wsV RL 57 RX8 yX8_about wsX8_about) := goodIn_app (by
  rw [wsL_flat_eq]
  exact goodIn_r _ [697, 698, 699, 5] rfl (by decide +kernel)) ggL_law_X8_about
set_option maxRecDepth 20000 in
theorem ggL_law_X7_made : GoodIn wsL_law wsX7_made := by
  rw [wsL_flat_eq]
  exact goodIn_r _ [716, 16, 32, 148, 149, 150, 15, 151, 152, 419, 420, 421, 31, 422, 165, 423, 424, 425, 426, 87, 427, 428, 429, 81, 82, 83, 430, 431, 432, 19, 433, 405, 434, 435, 59, 436, 437, 438, 439, 440, 441, 228, 229, 230, 231, 232, 233, 442, 443, 444, 445, 89, 446, 306, 307, 308, 309, 447, 180, 173, 181, 448, 365, 366, 27, 367, 75, 449, 450, 451, 452, 76, 453, 454, 455, 456, 88, 457, 458, 459, 460, 73, 461, 462, 463, 464, 74, 465, 466, 467, 468, 72, 469, 172, 174, 470, 471, 472, 473, 86, 474, 475, 476, 477, 56, 318, 478, 154, 155, 156, 41, 479, 197, 198, 199, 45, 170, 480, 224, 225, 226, 42, 481, 301, 302, 303, 53, 482, 483, 484, 485, 486, 487, 488, 489, 490, 158, 159, 160, 491, 492, 493, 494, 179, 495, 496, 497, 23, 498, 65, 68, 66, 250, 251, 252, 253, 51, 499, 500, 501, 502, 503, 504, 505, 506, 507, 351, 352, 353, 50, 508, 509, 510, 511, 54, 512, 513, 514, 515, 516, 517, 518, 519, 84, 520, 521, 522, 523, 530, 531, 532, 533, 534, 535, 536, 537, 682, 965, 966, 967, 968, 969, 970, 1021, 1022, 1023, 1024, 1025, 1026, 1048, 1049, 1050, 1051, 1052, 1053, 1054, 1055, 1056, 1057, 1058, 1059, 1060, 1027, 1028, 1029, 1030, 1031, 1032, 1033, 1034, 1035, 1036, 1037, 1042, 1043, 1044, 1045, 1046, 1047, 1038, 1039, 1040, 1041] rfl (by decide +kernel)
set_option maxRecDepth 20000 in
theorem gL_law_X7_made : GoodIn wsL_law (wsV RL 58 RX7 yX7_made wsX7_made) := goodIn_app (by
  rw [wsL_flat_eq]
  exact goodIn_r _ [713, 714, 715, 2] rfl (by decide +kernel)) ggL_law_X7_made
set_option maxRecDepth 20000 in
theorem ggL_law_X8_made : GoodIn wsL_law wsX8_made := by
  rw [wsL_flat_eq]
  exact goodIn_r _ [720, 121, 122, 260, 261, 262, 5, 263, 258, 264, 265, 266, 575, 576, 577, 578, 143, 120, 329, 114, 123, 124, 125, 579, 115, 116, 580, 581, 582, 583, 118, 119, 117, 112, 110, 111, 584, 585, 586, 587, 130, 588, 589, 590, 591, 106, 592, 593, 594, 595, 259, 127, 126, 596, 597, 598, 599, 107, 108, 109, 600, 601, 602, 603, 330, 331, 332, 333, 604, 605, 606, 607, 608, 609, 610, 611, 612, 613, 614, 615, 616, 617, 618, 619, 128, 620, 621, 622, 623, 129, 624, 625, 626, 627, 628, 629, 630, 631, 632, 633, 634, 635, 394, 395, 396, 636, 637, 638, 639, 132, 131, 971, 972, 973, 974, 975, 976, 977, 978, 979, 980, 981, 982, 983, 984, 985, 986, 987, 988, 989, 990, 991, 992, 993, 994, 995, 996, 997, 998, 999, 1000, 1001, 1002, 1003, 1004, 1005, 1006, 1007, 1008, 1009, 1010, 1011, 1012, 1013, 1014, 1015, 1016, 1017, 1018, 1019, 1020] rfl (by decide +kernel)
set_option maxRecDepth 20000 in
theorem gL_law_X8_made : GoodIn wsL_law (wsV RL 61 RX8 yX8_made wsX8_made) := goodIn_app (by
  rw [wsL_flat_eq]
  exact goodIn_r _ [717, 718, 719, 5] rfl (by decide +kernel)) ggL_law_X8_made
set_option maxRecDepth 20000 in
theorem ggL_law_X7_callee : GoodIn wsL_law wsX7_callee := by
  rw [wsL_flat_eq]
  exact goodIn_r _ [724, 20, 28, 32, 338, 339, 340, 19, 341, 309, 725, 726, 727, 27, 728, 75, 419, 420, 421, 31, 422, 165, 423, 424, 425, 426, 87, 427, 428, 429, 81, 82, 83, 430, 431, 432, 433, 405, 434, 435, 59, 436, 437, 438, 439, 440, 441, 228, 229, 230, 231, 232, 233, 442, 443, 444, 445, 89, 446, 306, 307, 308, 447, 180, 173, 181, 448, 365, 366, 367, 449, 450, 451, 452, 76, 453, 454, 455, 456, 88, 457, 458, 459, 460, 73, 461, 462, 463, 464, 74, 465, 466, 467, 468, 72, 469, 172, 174, 470, 471, 472, 473, 86, 474, 475, 476, 477, 56, 318, 478, 154, 155, 15, 156, 41, 479, 197, 198, 199, 45, 170, 480, 224, 225, 226, 42, 481, 301, 302, 303, 53, 482, 483, 484, 485, 486, 487, 488, 489, 490, 158, 159, 160, 152, 491, 492, 493, 494, 179, 495, 496, 497, 23, 498, 65, 68, 66, 250, 251, 252, 253, 51, 499, 500, 501, 502, 503, 504, 505, 506, 507, 351, 352, 353, 50, 508, 509, 510, 511, 54, 512, 513, 514, 515, 516, 517, 518, 519, 84, 520, 521, 522, 523, 729, 730, 731, 732, 733, 734, 238, 239, 240, 241, 965, 966, 967, 968, 969, 970, 1027, 1028, 1029, 1030, 1031, 1032, 1033, 1034, 1035, 1036, 1037, 1042, 1043, 1044, 1045, 1046, 1047, 1048, 1049, 1050, 1051, 1052, 1053, 1054, 1055, 1056, 1057, 1058, 1059, 1060, 1021, 1022, 1023, 1024, 1025, 1026, 1038, 1039, 1040, 1041] rfl (by decide +kernel)
set_option maxRecDepth 20000 in
theorem gL_law_X7_callee : GoodIn wsL_law (wsV RL 62 RX7 yX7_callee wsX7_callee) := goodIn_app (by
  rw [wsL_flat_eq]
  exact goodIn_r _ [721, 722, 723, 2] rfl (by decide +kernel)) ggL_law_X7_callee
set_option maxRecDepth 20000 in
theorem ggL_law_X8_callee : GoodIn wsL_law wsX8_callee := by
  rw [wsL_flat_eq]
  exact goodIn_r _ [738, 329, 124, 116, 739, 740, 741, 5, 742, 115, 382, 383, 384, 385, 264, 265, 266, 575, 576, 577, 578, 143, 120, 114, 121, 122, 123, 125, 579, 580, 581, 582, 583, 118, 119, 117, 112, 110, 111, 584, 585, 586, 587, 258, 130, 588, 589, 590, 591, 106, 592, 593, 594, 595, 259, 127, 126, 596, 597, 598, 599, 107, 108, 109, 600, 601, 602, 603, 330, 331, 332, 333, 604, 605, 606, 607, 608, 609, 610, 611, 612, 613, 614, 615, 616, 617, 618, 619, 128, 620, 621, 622, 623, 129, 624, 625, 626, 627, 628, 629, 630, 631, 632, 633, 634, 635, 394, 395, 396, 636, 637, 638, 639, 132, 131, 971, 972, 973, 974, 975, 976, 977, 978, 979, 980, 981, 982, 983, 984, 985, 986, 987, 988, 989, 990, 991, 992, 993, 994, 995, 996, 997, 998, 999, 1000, 1001, 1002, 1003, 1004, 1005, 1006, 1007, 1008, 1009, 1010, 1011, 1012, 1013, 1014, 1015, 1016, 1017, 1018, 1019, 1020] rfl (by decide +kernel)
set_option maxRecDepth 20000 in
theorem gL_law_X8_callee : GoodIn wsL_law (wsV RL 65 RX8 yX8_callee wsX8_callee) := goodIn_app (by
  rw [wsL_flat_eq]
  exact goodIn_r _ [735, 736, 737, 5] rfl (by decide +kernel)) ggL_law_X8_callee
set_option maxRecDepth 20000 in
theorem ggL_law_X7_faults : GoodIn wsL_law wsX7_faults := by
  rw [wsL_flat_eq]
  exact goodIn_r _ [746, 20, 28, 32, 338, 339, 340, 19, 341, 309, 725, 726, 727, 27, 728, 75, 419, 420, 421, 31, 422, 165, 423, 424, 425, 426, 87, 427, 428, 429, 81, 82, 83, 430, 431, 432, 433, 405, 434, 435, 59, 436, 437, 438, 439, 440, 441, 228, 229, 230, 231, 232, 233, 442, 443, 444, 445, 89, 446, 306, 307, 308, 447, 180, 173, 181, 448, 365, 366, 367, 449, 450, 451, 452, 76, 453, 454, 455, 456, 88, 457, 458, 459, 460, 73, 461, 462, 463, 464, 74, 465, 466, 467, 468, 72, 469, 172, 174, 470, 471, 472, 473, 86, 474, 475, 476, 477, 56, 318, 478, 154, 155, 15, 156, 41, 479, 197, 198, 199, 45, 170, 480, 224, 225, 226, 42, 481, 301, 302, 303, 53, 482, 483, 484, 485, 486, 487, 488, 489, 490, 158, 159, 160, 152, 491, 492, 493, 494, 179, 495, 496, 497, 23, 498, 65, 68, 66, 250, 251, 252, 253, 51, 499, 500, 501, 502, 503, 504, 505, 506, 507, 351, 352, 353, 50, 508, 509, 510, 511, 54, 512, 513, 514, 515, 516, 517, 518, 519, 84, 520, 521, 522, 523, 526, 527, 528, 529, 682, 729, 747, 552, 553, 554, 555, 556, 557, 558, 559, 560, 561, 562, 965, 966, 967, 968, 969, 970, 1027, 1028, 1029, 1030, 1031, 1032, 1033, 1034, 1035, 1036, 1037, 1042, 1043, 1044, 1045, 1046, 1047, 1048, 1049, 1050, 1051, 1052, 1053, 1054, 1055, 1056, 1057, 1058, 1059, 1060, 1021, 1022, 1023, 1024, 1025, 1026, 1038, 1039, 1040, 1041] rfl (by decide +kernel)
set_option maxRecDepth 20000 in
theorem gL_law_X7_faults : GoodIn wsL_law (wsV RL 66 RX7 yX7_faults wsX7_faults) := goodIn_app (by
  rw [wsL_flat_eq]
  exact goodIn_r _ [743, 744, 745, 2] rfl (by decide +kernel)) ggL_law_X7_faults
set_option maxRecDepth 20000 in
theorem ggL_law_X8_faults : GoodIn wsL_law wsX8_faults := by
  rw [wsL_flat_eq]
  exact goodIn_r _ [751, 125, 116, 739, 740, 741, 5, 742, 115, 382, 383, 384, 385, 329, 264, 265, 266, 575, 576, 577, 578, 143, 120, 114, 121, 122, 123, 124, 579, 580, 581, 582, 583, 118, 119, 117, 112, 110, 111, 584, 585, 586, 587, 258, 130, 588, 589, 590, 591, 106, 592, 593, 594, 595, 259, 127, 126, 596, 597, 598, 599, 107, 108, 109, 600, 601, 602, 603, 330, 331, 332, 333, 604, 605, 606, 607, 608, 609, 610, 611, 612, 613, 614, 615, 616, 617, 618, 619, 128, 620, 621, 622, 623, 129, 624, 625, 626, 627, 628, 629, 630, 631, 632, 633, 634, 635, 394, 395, 396, 636, 637, 638, 639, 132, 131, 971, 972, 973, 974, 975, 976, 977, 978, 979, 980, 981, 982, 983, 984, 985, 986, 987, 988, 989, 990, 991, 992, 993, 994, 995, 996, 997, 998, 999, 1000, 1001, 1002, 1003, 1004, 1005, 1006, 1007, 1008, 1009, 1010, 1011, 1012, 1013, 1014, 1015, 1016, 1017, 1018, 1019, 1020] rfl (by decide +kernel)
set_option maxRecDepth 20000 in
theorem gL_law_X8_faults : GoodIn wsL_law (wsV RL 69 RX8 yX8_faults wsX8_faults) := goodIn_app (by
  rw [wsL_flat_eq]
  exact goodIn_r _ [748, 749, 750, 5] rfl (by decide +kernel)) ggL_law_X8_faults
set_option maxRecDepth 20000 in
theorem ggL_law_X7_caller : GoodIn wsL_law wsX7_caller := by
  rw [wsL_flat_eq]
  exact goodIn_r _ [755, 20, 32, 338, 339, 340, 19, 341, 309, 419, 420, 421, 31, 422, 165, 423, 424, 425, 426, 87, 427, 428, 429, 81, 82, 83, 430, 431, 432, 433, 405, 434, 435, 59, 436, 437, 438, 439, 440, 441, 228, 229, 230, 231, 232, 233, 442, 443, 444, 445, 89, 446, 306, 307, 308, 447, 180, 173, 181, 448, 365, 366, 27, 367, 75, 449, 450, 451, 452, 76, 453, 454, 455, 456, 88, 457, 458, 459, 460, 73, 461, 462, 463, 464, 74, 465, 466, 467, 468, 72, 469, 172, 174, 470, 471, 472, 473, 86, 474, 475, 476, 477, 56, 318, 478, 154, 155, 15, 156, 41, 479, 197, 198, 199, 45, 170, 480, 224, 225, 226, 42, 481, 301, 302, 303, 53, 482, 483, 484, 485, 486, 487, 488, 489, 490, 158, 159, 160, 152, 491, 492, 493, 494, 179, 495, 496, 497, 23, 498, 65, 68, 66, 250, 251, 252, 253, 51, 499, 500, 501, 502, 503, 504, 505, 506, 507, 351, 352, 353, 50, 508, 509, 510, 511, 54, 512, 513, 514, 515, 516, 517, 518, 519, 84, 520, 521, 522, 523, 684, 685, 686, 687, 688, 689, 690, 691, 734, 238, 239, 240, 241, 965, 966, 967, 968, 969, 970, 1027, 1028, 1029, 1030, 1031, 1032, 1033, 1034, 1035, 1036, 1037, 1048, 1049, 1050, 1051, 1052, 1053, 1054, 1055, 1056, 1057, 1058, 1059, 1060, 1042, 1043, 1044, 1045, 1046, 1047, 1021, 1022, 1023, 1024, 1025, 1026, 1038, 1039, 1040, 1041] rfl (by decide +kernel)
set_option maxRecDepth 20000 in
theorem gL_law_X7_caller : GoodIn wsL_law (wsV RL 70 RX7 yX7_caller wsX7_caller) := goodIn_app (by
  rw [wsL_flat_eq]
  exact goodIn_r _ [752, 753, 754, 2] rfl (by decide +kernel)) ggL_law_X7_caller
set_option maxRecDepth 20000 in
theorem ggL_law_X8_caller : GoodIn wsL_law wsX8_caller := by
  rw [wsL_flat_eq]
  exact goodIn_r _ [759, 329, 382, 383, 384, 5, 385, 264, 265, 266, 575, 576, 577, 578, 143, 120, 114, 121, 122, 123, 124, 125, 579, 115, 116, 580, 581, 582, 583, 118, 119, 117, 112, 110, 111, 584, 585, 586, 587, 258, 130, 588, 589, 590, 591, 106, 592, 593, 594, 595, 259, 127, 126, 596, 597, 598, 599, 107, 108, 109, 600, 601, 602, 603, 330, 331, 332, 333, 604, 605, 606, 607, 608, 609, 610, 611, 612, 613, 614, 615, 616, 617, 618, 619, 128, 620, 621, 622, 623, 129, 624, 625, 626, 627, 628, 629, 630, 631, 632, 633, 634, 635, 394, 395, 396, 636, 637, 638, 639, 132, 131, 709, 710, 711, 712, 705, 706, 707, 708, 971, 972, 973, 974, 975, 976, 977, 978, 979, 980, 981, 982, 983, 984, 985, 986, 987, 988, 989, 990, 991, 992, 993, 994, 995, 996, 997, 998, 999, 1000, 1001, 1002, 1003, 1004, 1005, 1006, 1007, 1008, 1009, 1010, 1011, 1012, 1013, 1014, 1015, 1016, 1017, 1018, 1019, 1020] rfl (by decide +kernel)
set_option maxRecDepth 20000 in
theorem gL_law_X8_caller : GoodIn wsL_law (wsV RL 73 RX8 yX8_caller wsX8_caller) := goodIn_app (by
  rw [wsL_flat_eq]
  exact goodIn_r _ [756, 757, 758, 5] rfl (by decide +kernel)) ggL_law_X8_caller
set_option maxRecDepth 20000 in
theorem ggL_law_X7_way : GoodIn wsL_law wsX7_way := by
  rw [wsL_flat_eq]
  exact goodIn_r _ [763, 20, 32, 338, 339, 340, 19, 341, 309, 419, 420, 421, 31, 422, 165, 423, 424, 425, 426, 87, 427, 428, 429, 81, 82, 83, 430, 431, 432, 433, 405, 434, 435, 59, 436, 437, 438, 439, 440, 441, 228, 229, 230, 231, 232, 233, 442, 443, 444, 445, 89, 446, 306, 307, 308, 447, 180, 173, 181, 448, 365, 366, 27, 367, 75, 449, 450, 451, 452, 76, 453, 454, 455, 456, 88, 457, 458, 459, 460, 73, 461, 462, 463, 464, 74, 465, 466, 467, 468, 72, 469, 172, 174, 470, 471, 472, 473, 86, 474, 475, 476, 477, 56, 318, 478, 154, 155, 15, 156, 41, 479, 197, 198, 199, 45, 170, 480, 224, 225, 226, 42, 481, 301, 302, 303, 53, 482, 483, 484, 485, 486, 487, 488, 489, 490, 158, 159, 160, 152, 491, 492, 493, 494, 179, 495, 496, 497, 23, 498, 65, 68, 66, 250, 251, 252, 253, 51, 499, 500, 501, 502, 503, 504, 505, 506, 507, 351, 352, 353, 50, 508, 509, 510, 511, 54, 512, 513, 514, 515, 516, 517, 518, 519, 84, 520, 521, 522, 523, 764, 765, 766, 767, 85, 768, 769, 770, 771, 688, 689, 690, 691, 772, 235, 236, 237, 238, 239, 240, 241, 965, 966, 967, 968, 969, 970, 1027, 1028, 1029, 1030, 1031, 1032, 1033, 1034, 1035, 1036, 1037, 1048, 1049, 1050, 1051, 1052, 1053, 1054, 1055, 1056, 1057, 1058, 1059, 1060, 1042, 1043, 1044, 1045, 1046, 1047, 1021, 1022, 1023, 1024, 1025, 1026, 1038, 1039, 1040, 1041] rfl (by decide +kernel)
set_option maxRecDepth 20000 in
theorem gL_law_X7_way : GoodIn wsL_law (wsV RL 74 RX7 yX7_way wsX7_way) := goodIn_app (by
  rw [wsL_flat_eq]
  exact goodIn_r _ [760, 761, 762, 2] rfl (by decide +kernel)) ggL_law_X7_way
set_option maxRecDepth 20000 in
theorem ggL_law_X8_way : GoodIn wsL_law wsX8_way := by
  rw [wsL_flat_eq]
  exact goodIn_r _ [776, 120, 329, 114, 133, 382, 383, 384, 5, 385, 264, 265, 266, 575, 576, 577, 578, 143, 121, 122, 123, 124, 125, 579, 115, 116, 580, 581, 582, 583, 118, 119, 117, 112, 110, 111, 584, 585, 586, 587, 258, 130, 588, 589, 590, 591, 106, 592, 593, 594, 595, 259, 127, 126, 596, 597, 598, 599, 107, 108, 109, 600, 601, 602, 603, 330, 331, 332, 333, 604, 605, 606, 607, 608, 609, 610, 611, 612, 613, 614, 615, 616, 617, 618, 619, 128, 620, 621, 622, 623, 129, 624, 625, 626, 627, 628, 629, 630, 631, 632, 633, 634, 635, 394, 395, 396, 636, 637, 638, 639, 132, 131, 777, 778, 779, 780, 709, 710, 711, 712, 971, 972, 973, 974, 975, 976, 977, 978, 979, 980, 981, 982, 983, 984, 985, 986, 987, 988, 989, 990, 991, 992, 993, 994, 995, 996, 997, 998, 999, 1000, 1001, 1002, 1003, 1004, 1005, 1006, 1007, 1008, 1009, 1010, 1011, 1012, 1013, 1014, 1015, 1016, 1017, 1018, 1019, 1020] rfl (by decide +kernel)
set_option maxRecDepth 20000 in
theorem gL_law_X8_way : GoodIn wsL_law (wsV RL 77 RX8 yX8_way wsX8_way) := goodIn_app (by
  rw [wsL_flat_eq]
  exact goodIn_r _ [773, 774, 775, 5] rfl (by decide +kernel)) ggL_law_X8_way
set_option maxRecDepth 20000 in
theorem ggL_law_X7_run : GoodIn wsL_law wsX7_run := by
  rw [wsL_flat_eq]
  exact goodIn_r _ [784, 36, 785, 786, 787, 35, 788, 789, 99, 790, 791, 792, 793, 96, 97, 794, 795, 796, 797, 798, 799, 800, 58, 59, 60, 801, 435, 436, 802, 306, 307, 19, 308, 309, 803, 402, 403, 404, 405, 406, 180, 173, 181, 804, 805, 806, 807, 101, 808, 172, 174, 809, 365, 366, 27, 367, 75, 810, 811, 812, 813, 814, 815, 816, 450, 451, 452, 76, 817, 818, 819, 820, 98, 821, 822, 224, 225, 15, 226, 42, 823, 824, 825, 826, 475, 476, 477, 56, 318, 478, 154, 155, 156, 41, 479, 197, 198, 199, 45, 170, 827, 301, 302, 303, 53, 828, 829, 830, 831, 832, 228, 229, 230, 231, 232, 233, 833, 238, 239, 240, 241, 834, 95, 835, 94, 100, 836, 458, 459, 460, 73, 837, 492, 493, 494, 179, 838, 839, 840, 841, 842, 462, 463, 464, 74, 843, 496, 497, 23, 498, 65, 68, 66, 250, 251, 252, 253, 51, 844, 845, 351, 352, 353, 50, 846, 847, 848, 466, 467, 468, 72, 849, 850, 851, 852, 500, 501, 502, 853, 854, 855, 856, 857, 858, 859, 860, 861, 862, 863, 509, 510, 511, 54, 864, 865, 866, 867, 868, 869, 870, 871, 872, 873, 874, 525, 875, 876, 877, 878, 879, 880, 881, 882, 883, 884, 885, 886, 887, 888, 889, 890, 965, 966, 967, 968, 969, 970, 1061, 1062, 1063, 1064, 1065, 1066, 1067, 1068, 1069, 1070, 1071, 1072, 1073, 1074, 1075, 1027, 1028, 1029, 1030, 1031, 1032, 1033, 1034, 1035, 1036, 1037, 1021, 1022, 1023, 1024, 1025, 1026, 1042, 1043, 1044, 1045, 1046, 1047, 1038, 1039, 1040, 1041] rfl (by decide +kernel)
set_option maxRecDepth 20000 in
theorem gL_law_X7_run : GoodIn wsL_law (wsV RL 80 RX7 yX7_run wsX7_run) := goodIn_app (by
  rw [wsL_flat_eq]
  exact goodIn_r _ [781, 782, 783, 2] rfl (by decide +kernel)) ggL_law_X7_run
set_option maxRecDepth 20000 in
theorem ggL_law_X8_run : GoodIn wsL_law wsX8_run := by
  rw [wsL_flat_eq]
  exact goodIn_r _ [894, 329, 138, 258, 139, 895, 896, 897, 898, 264, 265, 5, 266, 899, 900, 901, 902, 903, 904, 905, 906, 142, 114, 575, 576, 577, 578, 143, 120, 121, 122, 123, 124, 125, 579, 115, 116, 580, 581, 582, 583, 118, 119, 117, 112, 110, 111, 584, 585, 586, 587, 130, 588, 589, 590, 591, 106, 592, 593, 594, 595, 259, 127, 126, 596, 597, 598, 599, 107, 108, 109, 600, 601, 602, 603, 330, 331, 332, 333, 604, 605, 606, 607, 608, 609, 610, 611, 612, 613, 614, 615, 616, 617, 618, 619, 128, 620, 621, 622, 623, 129, 624, 625, 626, 627, 628, 629, 630, 631, 632, 633, 634, 635, 394, 395, 396, 636, 637, 638, 639, 132, 131, 907, 908, 909, 910, 134, 135, 136, 137, 911, 912, 913, 914, 140, 915, 916, 917, 918, 919, 920, 921, 922, 923, 924, 141, 925, 926, 927, 928, 929, 930, 931, 932, 933, 934, 935, 936, 937, 938, 939, 940, 971, 972, 973, 974, 975, 976, 977, 978, 979, 980, 981, 982, 983, 984, 985, 986, 987, 988, 989, 990, 991, 992, 993, 994, 995, 996, 997, 998, 999, 1000, 1001, 1002, 1003, 1004, 1005, 1006, 1007, 1008, 1009, 1010, 1011, 1012, 1013, 1014, 1015, 1016, 1017, 1018, 1019, 1020] rfl (by decide +kernel)
set_option maxRecDepth 20000 in
theorem gL_law_X8_run : GoodIn wsL_law (wsV RL 84 RX8 yX8_run wsX8_run) := goodIn_app (by
  rw [wsL_flat_eq]
  exact goodIn_r _ [891, 892, 893, 5] rfl (by decide +kernel)) ggL_law_X8_run
set_option maxRecDepth 20000 in
theorem ggL_law_X7_holds : GoodIn wsL_law wsX7_holds := by
  rw [wsL_flat_eq]
  exact goodIn_r _ [944, 32, 36, 419, 420, 421, 31, 422, 165, 423, 424, 425, 426, 87, 427, 428, 429, 81, 82, 83, 430, 431, 432, 19, 433, 405, 434, 435, 59, 436, 437, 438, 439, 440, 441, 228, 229, 230, 231, 232, 233, 442, 443, 444, 445, 89, 446, 306, 307, 308, 309, 447, 180, 173, 181, 448, 365, 366, 27, 367, 75, 449, 450, 451, 452, 76, 453, 454, 455, 456, 88, 457, 458, 459, 460, 73, 461, 462, 463, 464, 74, 465, 466, 467, 468, 72, 469, 172, 174, 470, 471, 472, 473, 86, 474, 475, 476, 477, 56, 318, 478, 154, 155, 15, 156, 41, 479, 197, 198, 199, 45, 170, 480, 224, 225, 226, 42, 481, 301, 302, 303, 53, 482, 483, 484, 485, 486, 487, 488, 489, 490, 158, 159, 160, 152, 491, 492, 493, 494, 179, 495, 496, 497, 23, 498, 65, 68, 66, 250, 251, 252, 253, 51, 499, 500, 501, 502, 503, 504, 505, 506, 507, 351, 352, 353, 50, 508, 509, 510, 511, 54, 512, 513, 514, 515, 516, 517, 518, 519, 84, 520, 521, 522, 523, 785, 786, 787, 35, 788, 789, 99, 790, 791, 792, 793, 96, 97, 794, 795, 796, 797, 798, 799, 800, 58, 60, 801, 802, 803, 402, 403, 404, 406, 804, 805, 806, 807, 101, 808, 809, 810, 811, 812, 813, 814, 815, 816, 817, 818, 819, 820, 98, 821, 822, 823, 824, 825, 826, 827, 828, 829, 830, 831, 832, 833, 238, 239, 240, 241, 834, 95, 835, 94, 100, 836, 837, 838, 839, 840, 841, 842, 843, 844, 845, 846, 847, 848, 849, 850, 851, 852, 853, 854, 855, 856, 857, 858, 859, 860, 861, 862, 863, 864, 865, 866, 871, 872, 873, 874, 526, 527, 528, 529, 945, 946, 947, 948, 879, 880, 881, 882, 534, 535, 536, 537, 949, 950, 951, 952, 530, 531, 532, 533, 953, 954, 955, 2, 956, 28, 368, 369, 370, 371, 372, 957, 958, 959, 960, 730, 731, 732, 733, 965, 966, 967, 968, 969, 970, 1048, 1049, 1050, 1051, 1052, 1053, 1054, 1055, 1056, 1057, 1058, 1059, 1060, 1027, 1028, 1029, 1030, 1031, 1032, 1033, 1034, 1035, 1036, 1037, 1042, 1043, 1044, 1045, 1046, 1047, 1021, 1022, 1023, 1024, 1025, 1026, 1038, 1039, 1040, 1041, 1061, 1062, 1063, 1064, 1065, 1066, 1067, 1068, 1069, 1070, 1071, 1072, 1073, 1074, 1075] rfl (by decide +kernel)
set_option maxRecDepth 20000 in
theorem gL_law_X7_holds : GoodIn wsL_law (wsV RL 85 RX7 yX7_holds wsX7_holds) := goodIn_app (by
  rw [wsL_flat_eq]
  exact goodIn_r _ [941, 942, 943, 2] rfl (by decide +kernel)) ggL_law_X7_holds
set_option maxRecDepth 20000 in
theorem ggL_law_X8_holds : GoodIn wsL_law wsX8_holds := by
  rw [wsL_flat_eq]
  exact goodIn_r _ [964, 905, 899, 900, 901, 5, 902, 903, 895, 904, 897, 898, 896, 906, 138, 139, 142, 329, 114, 575, 576, 577, 578, 143, 120, 121, 122, 123, 124, 125, 579, 115, 116, 580, 581, 582, 583, 118, 119, 117, 112, 110, 111, 584, 585, 586, 587, 258, 130, 588, 589, 590, 591, 106, 592, 593, 594, 595, 259, 127, 126, 596, 597, 598, 599, 107, 108, 109, 600, 601, 602, 603, 330, 331, 332, 333, 604, 605, 606, 607, 608, 609, 610, 611, 612, 613, 614, 615, 616, 617, 618, 619, 128, 620, 621, 622, 623, 129, 624, 625, 626, 627, 628, 629, 630, 631, 632, 633, 634, 635, 394, 395, 396, 636, 637, 638, 639, 132, 131, 907, 908, 909, 910, 134, 135, 136, 137, 911, 912, 913, 914, 140, 915, 916, 917, 918, 919, 920, 921, 922, 923, 924, 141, 925, 926, 927, 928, 929, 930, 931, 932, 933, 934, 935, 936, 937, 938, 939, 940, 971, 972, 973, 974, 975, 976, 977, 978, 979, 980, 981, 982, 983, 984, 985, 986, 987, 988, 989, 990, 991, 992, 993, 994, 995, 996, 997, 998, 999, 1000, 1001, 1002, 1003, 1004, 1005, 1006, 1007, 1008, 1009, 1010, 1011, 1012, 1013, 1014, 1015, 1016, 1017, 1018, 1019, 1020] rfl (by decide +kernel)
set_option maxRecDepth 20000 in
theorem gL_law_X8_holds : GoodIn wsL_law (wsV RL 89 RX8 yX8_holds wsX8_holds) := goodIn_app (by
  rw [wsL_flat_eq]
  exact goodIn_r _ [961, 962, 963, 5] rfl (by decide +kernel)) ggL_law_X8_holds
theorem dL_law_0 : decode cL_law 0 = .ok (.new 7, 3) := by decide +kernel
theorem dL_law_3 : decode cL_law 3 = .ok (.dup, 1) := by decide +kernel
theorem dL_law_4 : decode cL_law 4 = .ok (.invokespecial 9, 3) := by decide +kernel
theorem dL_law_7 : decode cL_law 7 = .ok (.astore_n 1, 1) := by decide +kernel
theorem dL_law_8 : decode cL_law 8 = .ok (.new 10, 3) := by decide +kernel
theorem dL_law_11 : decode cL_law 11 = .ok (.dup, 1) := by decide +kernel
theorem dL_law_12 : decode cL_law 12 = .ok (.invokespecial 12, 3) := by decide +kernel
theorem dL_law_15 : decode cL_law 15 = .ok (.astore_n 2, 1) := by decide +kernel
theorem dL_law_16 : decode cL_law 16 = .ok (.iconst 0, 1) := by decide +kernel
theorem dL_law_17 : decode cL_law 17 = .ok (.istore_n 3, 1) := by decide +kernel
theorem dL_law_18 : decode cL_law 18 = .ok (.iload_n 3, 1) := by decide +kernel
theorem dL_law_19 : decode cL_law 19 = .ok (.aload_n 0, 1) := by decide +kernel
theorem dL_law_20 : decode cL_law 20 = .ok (.arraylength, 1) := by decide +kernel
theorem dL_law_21 : decode cL_law 21 = .ok (.iconst 5, 1) := by decide +kernel
theorem dL_law_22 : decode cL_law 22 = .ok (.isub, 1) := by decide +kernel
theorem dL_law_23 : decode cL_law 23 = .ok (.if_icmp .gt 776, 3) := by decide +kernel
theorem dL_law_26 : decode cL_law 26 = .ok (.aload_n 0, 1) := by decide +kernel
theorem dL_law_27 : decode cL_law 27 = .ok (.iload_n 3, 1) := by decide +kernel
theorem dL_law_28 : decode cL_law 28 = .ok (.iaload, 1) := by decide +kernel
theorem dL_law_29 : decode cL_law 29 = .ok (.bipush 31, 2) := by decide +kernel
theorem dL_law_31 : decode cL_law 31 = .ok (.iand, 1) := by decide +kernel
theorem dL_law_32 : decode cL_law 32 = .ok (.tableswitch 761 0 16 #[84, 117, 150, 193, 246, 295, 318, 351, 384, 427, 460, 493, 536, 579, 612, 645, 708], 84) := by decide +kernel
theorem dL_law_116 : decode cL_law 116 = .ok (.aload_n 1, 1) := by decide +kernel
theorem dL_law_117 : decode cL_law 117 = .ok (.aload_n 0, 1) := by decide +kernel
theorem dL_law_118 : decode cL_law 118 = .ok (.iload_n 3, 1) := by decide +kernel
theorem dL_law_119 : decode cL_law 119 = .ok (.iconst 1, 1) := by decide +kernel
theorem dL_law_120 : decode cL_law 120 = .ok (.iadd, 1) := by decide +kernel
theorem dL_law_121 : decode cL_law 121 = .ok (.iaload, 1) := by decide +kernel
theorem dL_law_122 : decode cL_law 122 = .ok (.aload_n 0, 1) := by decide +kernel
theorem dL_law_123 : decode cL_law 123 = .ok (.iload_n 3, 1) := by decide +kernel
theorem dL_law_124 : decode cL_law 124 = .ok (.iconst 2, 1) := by decide +kernel
theorem dL_law_125 : decode cL_law 125 = .ok (.iadd, 1) := by decide +kernel
theorem dL_law_126 : decode cL_law 126 = .ok (.iaload, 1) := by decide +kernel
theorem dL_law_127 : decode cL_law 127 = .ok (.invokevirtual 13, 3) := by decide +kernel
theorem dL_law_130 : decode cL_law 130 = .ok (.aload_n 2, 1) := by decide +kernel
theorem dL_law_131 : decode cL_law 131 = .ok (.aload_n 0, 1) := by decide +kernel
theorem dL_law_132 : decode cL_law 132 = .ok (.iload_n 3, 1) := by decide +kernel
theorem dL_law_133 : decode cL_law 133 = .ok (.iconst 1, 1) := by decide +kernel
theorem dL_law_134 : decode cL_law 134 = .ok (.iadd, 1) := by decide +kernel
theorem dL_law_135 : decode cL_law 135 = .ok (.iaload, 1) := by decide +kernel
theorem dL_law_136 : decode cL_law 136 = .ok (.aload_n 0, 1) := by decide +kernel
theorem dL_law_137 : decode cL_law 137 = .ok (.iload_n 3, 1) := by decide +kernel
theorem dL_law_138 : decode cL_law 138 = .ok (.iconst 2, 1) := by decide +kernel
theorem dL_law_139 : decode cL_law 139 = .ok (.iadd, 1) := by decide +kernel
theorem dL_law_140 : decode cL_law 140 = .ok (.iaload, 1) := by decide +kernel
theorem dL_law_141 : decode cL_law 141 = .ok (.invokevirtual 17, 3) := by decide +kernel
theorem dL_law_144 : decode cL_law 144 = .ok (.if_icmp .eq 649, 3) := by decide +kernel
theorem dL_law_147 : decode cL_law 147 = .ok (.iconst 0, 1) := by decide +kernel
theorem dL_law_148 : decode cL_law 148 = .ok (.ireturn, 1) := by decide +kernel
theorem dL_law_149 : decode cL_law 149 = .ok (.aload_n 1, 1) := by decide +kernel
theorem dL_law_150 : decode cL_law 150 = .ok (.aload_n 0, 1) := by decide +kernel
theorem dL_law_151 : decode cL_law 151 = .ok (.iload_n 3, 1) := by decide +kernel
theorem dL_law_152 : decode cL_law 152 = .ok (.iconst 1, 1) := by decide +kernel
theorem dL_law_153 : decode cL_law 153 = .ok (.iadd, 1) := by decide +kernel
theorem dL_law_154 : decode cL_law 154 = .ok (.iaload, 1) := by decide +kernel
theorem dL_law_155 : decode cL_law 155 = .ok (.aload_n 0, 1) := by decide +kernel
theorem dL_law_156 : decode cL_law 156 = .ok (.iload_n 3, 1) := by decide +kernel
theorem dL_law_157 : decode cL_law 157 = .ok (.iconst 2, 1) := by decide +kernel
theorem dL_law_158 : decode cL_law 158 = .ok (.iadd, 1) := by decide +kernel
theorem dL_law_159 : decode cL_law 159 = .ok (.iaload, 1) := by decide +kernel
theorem dL_law_160 : decode cL_law 160 = .ok (.invokevirtual 18, 3) := by decide +kernel
theorem dL_law_163 : decode cL_law 163 = .ok (.aload_n 2, 1) := by decide +kernel
theorem dL_law_164 : decode cL_law 164 = .ok (.aload_n 0, 1) := by decide +kernel
theorem dL_law_165 : decode cL_law 165 = .ok (.iload_n 3, 1) := by decide +kernel
theorem dL_law_166 : decode cL_law 166 = .ok (.iconst 1, 1) := by decide +kernel
theorem dL_law_167 : decode cL_law 167 = .ok (.iadd, 1) := by decide +kernel
theorem dL_law_168 : decode cL_law 168 = .ok (.iaload, 1) := by decide +kernel
theorem dL_law_169 : decode cL_law 169 = .ok (.aload_n 0, 1) := by decide +kernel
theorem dL_law_170 : decode cL_law 170 = .ok (.iload_n 3, 1) := by decide +kernel
theorem dL_law_171 : decode cL_law 171 = .ok (.iconst 2, 1) := by decide +kernel
theorem dL_law_172 : decode cL_law 172 = .ok (.iadd, 1) := by decide +kernel
theorem dL_law_173 : decode cL_law 173 = .ok (.iaload, 1) := by decide +kernel
theorem dL_law_174 : decode cL_law 174 = .ok (.invokevirtual 21, 3) := by decide +kernel
theorem dL_law_177 : decode cL_law 177 = .ok (.if_icmp .eq 616, 3) := by decide +kernel
theorem dL_law_180 : decode cL_law 180 = .ok (.iconst 0, 1) := by decide +kernel
theorem dL_law_181 : decode cL_law 181 = .ok (.ireturn, 1) := by decide +kernel
theorem dL_law_182 : decode cL_law 182 = .ok (.aload_n 1, 1) := by decide +kernel
theorem dL_law_183 : decode cL_law 183 = .ok (.aload_n 0, 1) := by decide +kernel
theorem dL_law_184 : decode cL_law 184 = .ok (.iload_n 3, 1) := by decide +kernel
theorem dL_law_185 : decode cL_law 185 = .ok (.iconst 1, 1) := by decide +kernel
theorem dL_law_186 : decode cL_law 186 = .ok (.iadd, 1) := by decide +kernel
theorem dL_law_187 : decode cL_law 187 = .ok (.iaload, 1) := by decide +kernel
theorem dL_law_188 : decode cL_law 188 = .ok (.aload_n 0, 1) := by decide +kernel
theorem dL_law_189 : decode cL_law 189 = .ok (.iload_n 3, 1) := by decide +kernel
theorem dL_law_190 : decode cL_law 190 = .ok (.iconst 2, 1) := by decide +kernel
theorem dL_law_191 : decode cL_law 191 = .ok (.iadd, 1) := by decide +kernel
theorem dL_law_192 : decode cL_law 192 = .ok (.iaload, 1) := by decide +kernel
theorem dL_law_193 : decode cL_law 193 = .ok (.aload_n 0, 1) := by decide +kernel
theorem dL_law_194 : decode cL_law 194 = .ok (.iload_n 3, 1) := by decide +kernel
theorem dL_law_195 : decode cL_law 195 = .ok (.iconst 3, 1) := by decide +kernel
theorem dL_law_196 : decode cL_law 196 = .ok (.iadd, 1) := by decide +kernel
theorem dL_law_197 : decode cL_law 197 = .ok (.iaload, 1) := by decide +kernel
theorem dL_law_198 : decode cL_law 198 = .ok (.invokevirtual 22, 3) := by decide +kernel
theorem dL_law_201 : decode cL_law 201 = .ok (.aload_n 2, 1) := by decide +kernel
theorem dL_law_202 : decode cL_law 202 = .ok (.aload_n 0, 1) := by decide +kernel
theorem dL_law_203 : decode cL_law 203 = .ok (.iload_n 3, 1) := by decide +kernel
theorem dL_law_204 : decode cL_law 204 = .ok (.iconst 1, 1) := by decide +kernel
theorem dL_law_205 : decode cL_law 205 = .ok (.iadd, 1) := by decide +kernel
theorem dL_law_206 : decode cL_law 206 = .ok (.iaload, 1) := by decide +kernel
theorem dL_law_207 : decode cL_law 207 = .ok (.aload_n 0, 1) := by decide +kernel
theorem dL_law_208 : decode cL_law 208 = .ok (.iload_n 3, 1) := by decide +kernel
theorem dL_law_209 : decode cL_law 209 = .ok (.iconst 2, 1) := by decide +kernel
theorem dL_law_210 : decode cL_law 210 = .ok (.iadd, 1) := by decide +kernel
theorem dL_law_211 : decode cL_law 211 = .ok (.iaload, 1) := by decide +kernel
theorem dL_law_212 : decode cL_law 212 = .ok (.aload_n 0, 1) := by decide +kernel
theorem dL_law_213 : decode cL_law 213 = .ok (.iload_n 3, 1) := by decide +kernel
theorem dL_law_214 : decode cL_law 214 = .ok (.iconst 3, 1) := by decide +kernel
theorem dL_law_215 : decode cL_law 215 = .ok (.iadd, 1) := by decide +kernel
theorem dL_law_216 : decode cL_law 216 = .ok (.iaload, 1) := by decide +kernel
theorem dL_law_217 : decode cL_law 217 = .ok (.invokevirtual 26, 3) := by decide +kernel
theorem dL_law_220 : decode cL_law 220 = .ok (.if_icmp .eq 573, 3) := by decide +kernel
theorem dL_law_223 : decode cL_law 223 = .ok (.iconst 0, 1) := by decide +kernel
theorem dL_law_224 : decode cL_law 224 = .ok (.ireturn, 1) := by decide +kernel
theorem dL_law_225 : decode cL_law 225 = .ok (.aload_n 1, 1) := by decide +kernel
theorem dL_law_226 : decode cL_law 226 = .ok (.aload_n 0, 1) := by decide +kernel
theorem dL_law_227 : decode cL_law 227 = .ok (.iload_n 3, 1) := by decide +kernel
theorem dL_law_228 : decode cL_law 228 = .ok (.iconst 1, 1) := by decide +kernel
theorem dL_law_229 : decode cL_law 229 = .ok (.iadd, 1) := by decide +kernel
theorem dL_law_230 : decode cL_law 230 = .ok (.iaload, 1) := by decide +kernel
theorem dL_law_231 : decode cL_law 231 = .ok (.aload_n 0, 1) := by decide +kernel
theorem dL_law_232 : decode cL_law 232 = .ok (.iload_n 3, 1) := by decide +kernel
theorem dL_law_233 : decode cL_law 233 = .ok (.iconst 2, 1) := by decide +kernel
theorem dL_law_234 : decode cL_law 234 = .ok (.iadd, 1) := by decide +kernel
theorem dL_law_235 : decode cL_law 235 = .ok (.iaload, 1) := by decide +kernel
theorem dL_law_236 : decode cL_law 236 = .ok (.aload_n 0, 1) := by decide +kernel
theorem dL_law_237 : decode cL_law 237 = .ok (.iload_n 3, 1) := by decide +kernel
theorem dL_law_238 : decode cL_law 238 = .ok (.iconst 3, 1) := by decide +kernel
theorem dL_law_239 : decode cL_law 239 = .ok (.iadd, 1) := by decide +kernel
theorem dL_law_240 : decode cL_law 240 = .ok (.iaload, 1) := by decide +kernel
theorem dL_law_241 : decode cL_law 241 = .ok (.aload_n 0, 1) := by decide +kernel
theorem dL_law_242 : decode cL_law 242 = .ok (.iload_n 3, 1) := by decide +kernel
theorem dL_law_243 : decode cL_law 243 = .ok (.iconst 4, 1) := by decide +kernel
theorem dL_law_244 : decode cL_law 244 = .ok (.iadd, 1) := by decide +kernel
theorem dL_law_245 : decode cL_law 245 = .ok (.iaload, 1) := by decide +kernel
theorem dL_law_246 : decode cL_law 246 = .ok (.invokevirtual 27, 3) := by decide +kernel
theorem dL_law_249 : decode cL_law 249 = .ok (.aload_n 2, 1) := by decide +kernel
theorem dL_law_250 : decode cL_law 250 = .ok (.aload_n 0, 1) := by decide +kernel
theorem dL_law_251 : decode cL_law 251 = .ok (.iload_n 3, 1) := by decide +kernel
theorem dL_law_252 : decode cL_law 252 = .ok (.iconst 1, 1) := by decide +kernel
theorem dL_law_253 : decode cL_law 253 = .ok (.iadd, 1) := by decide +kernel
theorem dL_law_254 : decode cL_law 254 = .ok (.iaload, 1) := by decide +kernel
theorem dL_law_255 : decode cL_law 255 = .ok (.aload_n 0, 1) := by decide +kernel
theorem dL_law_256 : decode cL_law 256 = .ok (.iload_n 3, 1) := by decide +kernel
theorem dL_law_257 : decode cL_law 257 = .ok (.iconst 2, 1) := by decide +kernel
theorem dL_law_258 : decode cL_law 258 = .ok (.iadd, 1) := by decide +kernel
theorem dL_law_259 : decode cL_law 259 = .ok (.iaload, 1) := by decide +kernel
theorem dL_law_260 : decode cL_law 260 = .ok (.aload_n 0, 1) := by decide +kernel
theorem dL_law_261 : decode cL_law 261 = .ok (.iload_n 3, 1) := by decide +kernel
theorem dL_law_262 : decode cL_law 262 = .ok (.iconst 3, 1) := by decide +kernel
theorem dL_law_263 : decode cL_law 263 = .ok (.iadd, 1) := by decide +kernel
theorem dL_law_264 : decode cL_law 264 = .ok (.iaload, 1) := by decide +kernel
theorem dL_law_265 : decode cL_law 265 = .ok (.aload_n 0, 1) := by decide +kernel
theorem dL_law_266 : decode cL_law 266 = .ok (.iload_n 3, 1) := by decide +kernel
theorem dL_law_267 : decode cL_law 267 = .ok (.iconst 4, 1) := by decide +kernel
theorem dL_law_268 : decode cL_law 268 = .ok (.iadd, 1) := by decide +kernel
theorem dL_law_269 : decode cL_law 269 = .ok (.iaload, 1) := by decide +kernel
theorem dL_law_270 : decode cL_law 270 = .ok (.invokevirtual 31, 3) := by decide +kernel
theorem dL_law_273 : decode cL_law 273 = .ok (.if_icmp .eq 520, 3) := by decide +kernel
theorem dL_law_276 : decode cL_law 276 = .ok (.iconst 0, 1) := by decide +kernel
theorem dL_law_277 : decode cL_law 277 = .ok (.ireturn, 1) := by decide +kernel
theorem dL_law_278 : decode cL_law 278 = .ok (.aload_n 1, 1) := by decide +kernel
theorem dL_law_279 : decode cL_law 279 = .ok (.aload_n 0, 1) := by decide +kernel
theorem dL_law_280 : decode cL_law 280 = .ok (.iload_n 3, 1) := by decide +kernel
theorem dL_law_281 : decode cL_law 281 = .ok (.iconst 1, 1) := by decide +kernel
theorem dL_law_282 : decode cL_law 282 = .ok (.iadd, 1) := by decide +kernel
theorem dL_law_283 : decode cL_law 283 = .ok (.iaload, 1) := by decide +kernel
theorem dL_law_284 : decode cL_law 284 = .ok (.aload_n 0, 1) := by decide +kernel
theorem dL_law_285 : decode cL_law 285 = .ok (.iload_n 3, 1) := by decide +kernel
theorem dL_law_286 : decode cL_law 286 = .ok (.iconst 2, 1) := by decide +kernel
theorem dL_law_287 : decode cL_law 287 = .ok (.iadd, 1) := by decide +kernel
theorem dL_law_288 : decode cL_law 288 = .ok (.iaload, 1) := by decide +kernel
theorem dL_law_289 : decode cL_law 289 = .ok (.ifCond .eq 7, 3) := by decide +kernel
theorem dL_law_292 : decode cL_law 292 = .ok (.iconst 1, 1) := by decide +kernel
theorem dL_law_293 : decode cL_law 293 = .ok (.goto 4, 3) := by decide +kernel
theorem dL_law_296 : decode cL_law 296 = .ok (.iconst 0, 1) := by decide +kernel
theorem dL_law_297 : decode cL_law 297 = .ok (.invokevirtual 32, 3) := by decide +kernel
theorem dL_law_300 : decode cL_law 300 = .ok (.aload_n 2, 1) := by decide +kernel
theorem dL_law_301 : decode cL_law 301 = .ok (.aload_n 0, 1) := by decide +kernel
theorem dL_law_302 : decode cL_law 302 = .ok (.iload_n 3, 1) := by decide +kernel
theorem dL_law_303 : decode cL_law 303 = .ok (.iconst 1, 1) := by decide +kernel
theorem dL_law_304 : decode cL_law 304 = .ok (.iadd, 1) := by decide +kernel
theorem dL_law_305 : decode cL_law 305 = .ok (.iaload, 1) := by decide +kernel
theorem dL_law_306 : decode cL_law 306 = .ok (.aload_n 0, 1) := by decide +kernel
theorem dL_law_307 : decode cL_law 307 = .ok (.iload_n 3, 1) := by decide +kernel
theorem dL_law_308 : decode cL_law 308 = .ok (.iconst 2, 1) := by decide +kernel
theorem dL_law_309 : decode cL_law 309 = .ok (.iadd, 1) := by decide +kernel
theorem dL_law_310 : decode cL_law 310 = .ok (.iaload, 1) := by decide +kernel
theorem dL_law_311 : decode cL_law 311 = .ok (.ifCond .eq 7, 3) := by decide +kernel
theorem dL_law_314 : decode cL_law 314 = .ok (.iconst 1, 1) := by decide +kernel
theorem dL_law_315 : decode cL_law 315 = .ok (.goto 4, 3) := by decide +kernel
theorem dL_law_318 : decode cL_law 318 = .ok (.iconst 0, 1) := by decide +kernel
theorem dL_law_319 : decode cL_law 319 = .ok (.invokevirtual 36, 3) := by decide +kernel
theorem dL_law_322 : decode cL_law 322 = .ok (.if_icmp .eq 471, 3) := by decide +kernel
theorem dL_law_325 : decode cL_law 325 = .ok (.iconst 0, 1) := by decide +kernel
theorem dL_law_326 : decode cL_law 326 = .ok (.ireturn, 1) := by decide +kernel
theorem dL_law_327 : decode cL_law 327 = .ok (.aload_n 1, 1) := by decide +kernel
theorem dL_law_328 : decode cL_law 328 = .ok (.aload_n 0, 1) := by decide +kernel
theorem dL_law_329 : decode cL_law 329 = .ok (.iload_n 3, 1) := by decide +kernel
theorem dL_law_330 : decode cL_law 330 = .ok (.iconst 1, 1) := by decide +kernel
theorem dL_law_331 : decode cL_law 331 = .ok (.iadd, 1) := by decide +kernel
theorem dL_law_332 : decode cL_law 332 = .ok (.iaload, 1) := by decide +kernel
theorem dL_law_333 : decode cL_law 333 = .ok (.invokevirtual 37, 3) := by decide +kernel
theorem dL_law_336 : decode cL_law 336 = .ok (.aload_n 2, 1) := by decide +kernel
theorem dL_law_337 : decode cL_law 337 = .ok (.aload_n 0, 1) := by decide +kernel
theorem dL_law_338 : decode cL_law 338 = .ok (.iload_n 3, 1) := by decide +kernel
theorem dL_law_339 : decode cL_law 339 = .ok (.iconst 1, 1) := by decide +kernel
theorem dL_law_340 : decode cL_law 340 = .ok (.iadd, 1) := by decide +kernel
theorem dL_law_341 : decode cL_law 341 = .ok (.iaload, 1) := by decide +kernel
theorem dL_law_342 : decode cL_law 342 = .ok (.invokevirtual 41, 3) := by decide +kernel
theorem dL_law_345 : decode cL_law 345 = .ok (.if_icmp .eq 448, 3) := by decide +kernel
theorem dL_law_348 : decode cL_law 348 = .ok (.iconst 0, 1) := by decide +kernel
theorem dL_law_349 : decode cL_law 349 = .ok (.ireturn, 1) := by decide +kernel
theorem dL_law_350 : decode cL_law 350 = .ok (.aload_n 1, 1) := by decide +kernel
theorem dL_law_351 : decode cL_law 351 = .ok (.aload_n 0, 1) := by decide +kernel
theorem dL_law_352 : decode cL_law 352 = .ok (.iload_n 3, 1) := by decide +kernel
theorem dL_law_353 : decode cL_law 353 = .ok (.iconst 1, 1) := by decide +kernel
theorem dL_law_354 : decode cL_law 354 = .ok (.iadd, 1) := by decide +kernel
theorem dL_law_355 : decode cL_law 355 = .ok (.iaload, 1) := by decide +kernel
theorem dL_law_356 : decode cL_law 356 = .ok (.aload_n 0, 1) := by decide +kernel
theorem dL_law_357 : decode cL_law 357 = .ok (.iload_n 3, 1) := by decide +kernel
theorem dL_law_358 : decode cL_law 358 = .ok (.iconst 2, 1) := by decide +kernel
theorem dL_law_359 : decode cL_law 359 = .ok (.iadd, 1) := by decide +kernel
theorem dL_law_360 : decode cL_law 360 = .ok (.iaload, 1) := by decide +kernel
theorem dL_law_361 : decode cL_law 361 = .ok (.invokevirtual 42, 3) := by decide +kernel
theorem dL_law_364 : decode cL_law 364 = .ok (.aload_n 2, 1) := by decide +kernel
theorem dL_law_365 : decode cL_law 365 = .ok (.aload_n 0, 1) := by decide +kernel
theorem dL_law_366 : decode cL_law 366 = .ok (.iload_n 3, 1) := by decide +kernel
theorem dL_law_367 : decode cL_law 367 = .ok (.iconst 1, 1) := by decide +kernel
theorem dL_law_368 : decode cL_law 368 = .ok (.iadd, 1) := by decide +kernel
theorem dL_law_369 : decode cL_law 369 = .ok (.iaload, 1) := by decide +kernel
theorem dL_law_370 : decode cL_law 370 = .ok (.aload_n 0, 1) := by decide +kernel
theorem dL_law_371 : decode cL_law 371 = .ok (.iload_n 3, 1) := by decide +kernel
theorem dL_law_372 : decode cL_law 372 = .ok (.iconst 2, 1) := by decide +kernel
theorem dL_law_373 : decode cL_law 373 = .ok (.iadd, 1) := by decide +kernel
theorem dL_law_374 : decode cL_law 374 = .ok (.iaload, 1) := by decide +kernel
theorem dL_law_375 : decode cL_law 375 = .ok (.invokevirtual 45, 3) := by decide +kernel
theorem dL_law_378 : decode cL_law 378 = .ok (.if_icmp .eq 415, 3) := by decide +kernel
theorem dL_law_381 : decode cL_law 381 = .ok (.iconst 0, 1) := by decide +kernel
theorem dL_law_382 : decode cL_law 382 = .ok (.ireturn, 1) := by decide +kernel
theorem dL_law_383 : decode cL_law 383 = .ok (.aload_n 1, 1) := by decide +kernel
theorem dL_law_384 : decode cL_law 384 = .ok (.aload_n 0, 1) := by decide +kernel
theorem dL_law_385 : decode cL_law 385 = .ok (.iload_n 3, 1) := by decide +kernel
theorem dL_law_386 : decode cL_law 386 = .ok (.iconst 1, 1) := by decide +kernel
theorem dL_law_387 : decode cL_law 387 = .ok (.iadd, 1) := by decide +kernel
theorem dL_law_388 : decode cL_law 388 = .ok (.iaload, 1) := by decide +kernel
theorem dL_law_389 : decode cL_law 389 = .ok (.aload_n 0, 1) := by decide +kernel
theorem dL_law_390 : decode cL_law 390 = .ok (.iload_n 3, 1) := by decide +kernel
theorem dL_law_391 : decode cL_law 391 = .ok (.iconst 2, 1) := by decide +kernel
theorem dL_law_392 : decode cL_law 392 = .ok (.iadd, 1) := by decide +kernel
theorem dL_law_393 : decode cL_law 393 = .ok (.iaload, 1) := by decide +kernel
theorem dL_law_394 : decode cL_law 394 = .ok (.invokevirtual 46, 3) := by decide +kernel
theorem dL_law_397 : decode cL_law 397 = .ok (.aload_n 2, 1) := by decide +kernel
theorem dL_law_398 : decode cL_law 398 = .ok (.aload_n 0, 1) := by decide +kernel
theorem dL_law_399 : decode cL_law 399 = .ok (.iload_n 3, 1) := by decide +kernel
theorem dL_law_400 : decode cL_law 400 = .ok (.iconst 1, 1) := by decide +kernel
theorem dL_law_401 : decode cL_law 401 = .ok (.iadd, 1) := by decide +kernel
theorem dL_law_402 : decode cL_law 402 = .ok (.iaload, 1) := by decide +kernel
theorem dL_law_403 : decode cL_law 403 = .ok (.aload_n 0, 1) := by decide +kernel
theorem dL_law_404 : decode cL_law 404 = .ok (.iload_n 3, 1) := by decide +kernel
theorem dL_law_405 : decode cL_law 405 = .ok (.iconst 2, 1) := by decide +kernel
theorem dL_law_406 : decode cL_law 406 = .ok (.iadd, 1) := by decide +kernel
theorem dL_law_407 : decode cL_law 407 = .ok (.iaload, 1) := by decide +kernel
theorem dL_law_408 : decode cL_law 408 = .ok (.invokevirtual 49, 3) := by decide +kernel
theorem dL_law_411 : decode cL_law 411 = .ok (.if_icmp .eq 382, 3) := by decide +kernel
theorem dL_law_414 : decode cL_law 414 = .ok (.iconst 0, 1) := by decide +kernel
theorem dL_law_415 : decode cL_law 415 = .ok (.ireturn, 1) := by decide +kernel
theorem dL_law_416 : decode cL_law 416 = .ok (.aload_n 1, 1) := by decide +kernel
theorem dL_law_417 : decode cL_law 417 = .ok (.aload_n 0, 1) := by decide +kernel
theorem dL_law_418 : decode cL_law 418 = .ok (.iload_n 3, 1) := by decide +kernel
theorem dL_law_419 : decode cL_law 419 = .ok (.iconst 1, 1) := by decide +kernel
theorem dL_law_420 : decode cL_law 420 = .ok (.iadd, 1) := by decide +kernel
theorem dL_law_421 : decode cL_law 421 = .ok (.iaload, 1) := by decide +kernel
theorem dL_law_422 : decode cL_law 422 = .ok (.aload_n 0, 1) := by decide +kernel
theorem dL_law_423 : decode cL_law 423 = .ok (.iload_n 3, 1) := by decide +kernel
theorem dL_law_424 : decode cL_law 424 = .ok (.iconst 2, 1) := by decide +kernel
theorem dL_law_425 : decode cL_law 425 = .ok (.iadd, 1) := by decide +kernel
theorem dL_law_426 : decode cL_law 426 = .ok (.iaload, 1) := by decide +kernel
theorem dL_law_427 : decode cL_law 427 = .ok (.aload_n 0, 1) := by decide +kernel
theorem dL_law_428 : decode cL_law 428 = .ok (.iload_n 3, 1) := by decide +kernel
theorem dL_law_429 : decode cL_law 429 = .ok (.iconst 3, 1) := by decide +kernel
theorem dL_law_430 : decode cL_law 430 = .ok (.iadd, 1) := by decide +kernel
theorem dL_law_431 : decode cL_law 431 = .ok (.iaload, 1) := by decide +kernel
theorem dL_law_432 : decode cL_law 432 = .ok (.invokevirtual 50, 3) := by decide +kernel
theorem dL_law_435 : decode cL_law 435 = .ok (.aload_n 2, 1) := by decide +kernel
theorem dL_law_436 : decode cL_law 436 = .ok (.aload_n 0, 1) := by decide +kernel
theorem dL_law_437 : decode cL_law 437 = .ok (.iload_n 3, 1) := by decide +kernel
theorem dL_law_438 : decode cL_law 438 = .ok (.iconst 1, 1) := by decide +kernel
theorem dL_law_439 : decode cL_law 439 = .ok (.iadd, 1) := by decide +kernel
theorem dL_law_440 : decode cL_law 440 = .ok (.iaload, 1) := by decide +kernel
theorem dL_law_441 : decode cL_law 441 = .ok (.aload_n 0, 1) := by decide +kernel
theorem dL_law_442 : decode cL_law 442 = .ok (.iload_n 3, 1) := by decide +kernel
theorem dL_law_443 : decode cL_law 443 = .ok (.iconst 2, 1) := by decide +kernel
theorem dL_law_444 : decode cL_law 444 = .ok (.iadd, 1) := by decide +kernel
theorem dL_law_445 : decode cL_law 445 = .ok (.iaload, 1) := by decide +kernel
theorem dL_law_446 : decode cL_law 446 = .ok (.aload_n 0, 1) := by decide +kernel
theorem dL_law_447 : decode cL_law 447 = .ok (.iload_n 3, 1) := by decide +kernel
theorem dL_law_448 : decode cL_law 448 = .ok (.iconst 3, 1) := by decide +kernel
theorem dL_law_449 : decode cL_law 449 = .ok (.iadd, 1) := by decide +kernel
theorem dL_law_450 : decode cL_law 450 = .ok (.iaload, 1) := by decide +kernel
theorem dL_law_451 : decode cL_law 451 = .ok (.invokevirtual 53, 3) := by decide +kernel
theorem dL_law_454 : decode cL_law 454 = .ok (.if_icmp .eq 339, 3) := by decide +kernel
theorem dL_law_457 : decode cL_law 457 = .ok (.iconst 0, 1) := by decide +kernel
theorem dL_law_458 : decode cL_law 458 = .ok (.ireturn, 1) := by decide +kernel
theorem dL_law_459 : decode cL_law 459 = .ok (.aload_n 1, 1) := by decide +kernel
theorem dL_law_460 : decode cL_law 460 = .ok (.aload_n 0, 1) := by decide +kernel
theorem dL_law_461 : decode cL_law 461 = .ok (.iload_n 3, 1) := by decide +kernel
theorem dL_law_462 : decode cL_law 462 = .ok (.iconst 1, 1) := by decide +kernel
theorem dL_law_463 : decode cL_law 463 = .ok (.iadd, 1) := by decide +kernel
theorem dL_law_464 : decode cL_law 464 = .ok (.iaload, 1) := by decide +kernel
theorem dL_law_465 : decode cL_law 465 = .ok (.aload_n 0, 1) := by decide +kernel
theorem dL_law_466 : decode cL_law 466 = .ok (.iload_n 3, 1) := by decide +kernel
theorem dL_law_467 : decode cL_law 467 = .ok (.iconst 2, 1) := by decide +kernel
theorem dL_law_468 : decode cL_law 468 = .ok (.iadd, 1) := by decide +kernel
theorem dL_law_469 : decode cL_law 469 = .ok (.iaload, 1) := by decide +kernel
theorem dL_law_470 : decode cL_law 470 = .ok (.invokevirtual 54, 3) := by decide +kernel
theorem dL_law_473 : decode cL_law 473 = .ok (.aload_n 2, 1) := by decide +kernel
theorem dL_law_474 : decode cL_law 474 = .ok (.aload_n 0, 1) := by decide +kernel
theorem dL_law_475 : decode cL_law 475 = .ok (.iload_n 3, 1) := by decide +kernel
theorem dL_law_476 : decode cL_law 476 = .ok (.iconst 1, 1) := by decide +kernel
theorem dL_law_477 : decode cL_law 477 = .ok (.iadd, 1) := by decide +kernel
theorem dL_law_478 : decode cL_law 478 = .ok (.iaload, 1) := by decide +kernel
theorem dL_law_479 : decode cL_law 479 = .ok (.aload_n 0, 1) := by decide +kernel
theorem dL_law_480 : decode cL_law 480 = .ok (.iload_n 3, 1) := by decide +kernel
theorem dL_law_481 : decode cL_law 481 = .ok (.iconst 2, 1) := by decide +kernel
theorem dL_law_482 : decode cL_law 482 = .ok (.iadd, 1) := by decide +kernel
theorem dL_law_483 : decode cL_law 483 = .ok (.iaload, 1) := by decide +kernel
theorem dL_law_484 : decode cL_law 484 = .ok (.invokevirtual 57, 3) := by decide +kernel
theorem dL_law_487 : decode cL_law 487 = .ok (.if_icmp .eq 306, 3) := by decide +kernel
theorem dL_law_490 : decode cL_law 490 = .ok (.iconst 0, 1) := by decide +kernel
theorem dL_law_491 : decode cL_law 491 = .ok (.ireturn, 1) := by decide +kernel
theorem dL_law_492 : decode cL_law 492 = .ok (.aload_n 1, 1) := by decide +kernel
theorem dL_law_493 : decode cL_law 493 = .ok (.aload_n 0, 1) := by decide +kernel
theorem dL_law_494 : decode cL_law 494 = .ok (.iload_n 3, 1) := by decide +kernel
theorem dL_law_495 : decode cL_law 495 = .ok (.iconst 1, 1) := by decide +kernel
theorem dL_law_496 : decode cL_law 496 = .ok (.iadd, 1) := by decide +kernel
theorem dL_law_497 : decode cL_law 497 = .ok (.iaload, 1) := by decide +kernel
theorem dL_law_498 : decode cL_law 498 = .ok (.aload_n 0, 1) := by decide +kernel
theorem dL_law_499 : decode cL_law 499 = .ok (.iload_n 3, 1) := by decide +kernel
theorem dL_law_500 : decode cL_law 500 = .ok (.iconst 2, 1) := by decide +kernel
theorem dL_law_501 : decode cL_law 501 = .ok (.iadd, 1) := by decide +kernel
theorem dL_law_502 : decode cL_law 502 = .ok (.iaload, 1) := by decide +kernel
theorem dL_law_503 : decode cL_law 503 = .ok (.invokevirtual 58, 3) := by decide +kernel
theorem dL_law_506 : decode cL_law 506 = .ok (.aload_n 2, 1) := by decide +kernel
theorem dL_law_507 : decode cL_law 507 = .ok (.aload_n 0, 1) := by decide +kernel
theorem dL_law_508 : decode cL_law 508 = .ok (.iload_n 3, 1) := by decide +kernel
theorem dL_law_509 : decode cL_law 509 = .ok (.iconst 1, 1) := by decide +kernel
theorem dL_law_510 : decode cL_law 510 = .ok (.iadd, 1) := by decide +kernel
theorem dL_law_511 : decode cL_law 511 = .ok (.iaload, 1) := by decide +kernel
theorem dL_law_512 : decode cL_law 512 = .ok (.aload_n 0, 1) := by decide +kernel
theorem dL_law_513 : decode cL_law 513 = .ok (.iload_n 3, 1) := by decide +kernel
theorem dL_law_514 : decode cL_law 514 = .ok (.iconst 2, 1) := by decide +kernel
theorem dL_law_515 : decode cL_law 515 = .ok (.iadd, 1) := by decide +kernel
theorem dL_law_516 : decode cL_law 516 = .ok (.iaload, 1) := by decide +kernel
theorem dL_law_517 : decode cL_law 517 = .ok (.invokevirtual 61, 3) := by decide +kernel
theorem dL_law_520 : decode cL_law 520 = .ok (.if_icmp .eq 273, 3) := by decide +kernel
theorem dL_law_523 : decode cL_law 523 = .ok (.iconst 0, 1) := by decide +kernel
theorem dL_law_524 : decode cL_law 524 = .ok (.ireturn, 1) := by decide +kernel
theorem dL_law_525 : decode cL_law 525 = .ok (.aload_n 1, 1) := by decide +kernel
theorem dL_law_526 : decode cL_law 526 = .ok (.aload_n 0, 1) := by decide +kernel
theorem dL_law_527 : decode cL_law 527 = .ok (.iload_n 3, 1) := by decide +kernel
theorem dL_law_528 : decode cL_law 528 = .ok (.iconst 1, 1) := by decide +kernel
theorem dL_law_529 : decode cL_law 529 = .ok (.iadd, 1) := by decide +kernel
theorem dL_law_530 : decode cL_law 530 = .ok (.iaload, 1) := by decide +kernel
theorem dL_law_531 : decode cL_law 531 = .ok (.aload_n 0, 1) := by decide +kernel
theorem dL_law_532 : decode cL_law 532 = .ok (.iload_n 3, 1) := by decide +kernel
theorem dL_law_533 : decode cL_law 533 = .ok (.iconst 2, 1) := by decide +kernel
theorem dL_law_534 : decode cL_law 534 = .ok (.iadd, 1) := by decide +kernel
theorem dL_law_535 : decode cL_law 535 = .ok (.iaload, 1) := by decide +kernel
theorem dL_law_536 : decode cL_law 536 = .ok (.aload_n 0, 1) := by decide +kernel
theorem dL_law_537 : decode cL_law 537 = .ok (.iload_n 3, 1) := by decide +kernel
theorem dL_law_538 : decode cL_law 538 = .ok (.iconst 3, 1) := by decide +kernel
theorem dL_law_539 : decode cL_law 539 = .ok (.iadd, 1) := by decide +kernel
theorem dL_law_540 : decode cL_law 540 = .ok (.iaload, 1) := by decide +kernel
theorem dL_law_541 : decode cL_law 541 = .ok (.invokevirtual 62, 3) := by decide +kernel
theorem dL_law_544 : decode cL_law 544 = .ok (.aload_n 2, 1) := by decide +kernel
theorem dL_law_545 : decode cL_law 545 = .ok (.aload_n 0, 1) := by decide +kernel
theorem dL_law_546 : decode cL_law 546 = .ok (.iload_n 3, 1) := by decide +kernel
theorem dL_law_547 : decode cL_law 547 = .ok (.iconst 1, 1) := by decide +kernel
theorem dL_law_548 : decode cL_law 548 = .ok (.iadd, 1) := by decide +kernel
theorem dL_law_549 : decode cL_law 549 = .ok (.iaload, 1) := by decide +kernel
theorem dL_law_550 : decode cL_law 550 = .ok (.aload_n 0, 1) := by decide +kernel
theorem dL_law_551 : decode cL_law 551 = .ok (.iload_n 3, 1) := by decide +kernel
theorem dL_law_552 : decode cL_law 552 = .ok (.iconst 2, 1) := by decide +kernel
theorem dL_law_553 : decode cL_law 553 = .ok (.iadd, 1) := by decide +kernel
theorem dL_law_554 : decode cL_law 554 = .ok (.iaload, 1) := by decide +kernel
theorem dL_law_555 : decode cL_law 555 = .ok (.aload_n 0, 1) := by decide +kernel
theorem dL_law_556 : decode cL_law 556 = .ok (.iload_n 3, 1) := by decide +kernel
theorem dL_law_557 : decode cL_law 557 = .ok (.iconst 3, 1) := by decide +kernel
theorem dL_law_558 : decode cL_law 558 = .ok (.iadd, 1) := by decide +kernel
theorem dL_law_559 : decode cL_law 559 = .ok (.iaload, 1) := by decide +kernel
theorem dL_law_560 : decode cL_law 560 = .ok (.invokevirtual 65, 3) := by decide +kernel
theorem dL_law_563 : decode cL_law 563 = .ok (.if_icmp .eq 230, 3) := by decide +kernel
theorem dL_law_566 : decode cL_law 566 = .ok (.iconst 0, 1) := by decide +kernel
theorem dL_law_567 : decode cL_law 567 = .ok (.ireturn, 1) := by decide +kernel
theorem dL_law_568 : decode cL_law 568 = .ok (.aload_n 1, 1) := by decide +kernel
theorem dL_law_569 : decode cL_law 569 = .ok (.aload_n 0, 1) := by decide +kernel
theorem dL_law_570 : decode cL_law 570 = .ok (.iload_n 3, 1) := by decide +kernel
theorem dL_law_571 : decode cL_law 571 = .ok (.iconst 1, 1) := by decide +kernel
theorem dL_law_572 : decode cL_law 572 = .ok (.iadd, 1) := by decide +kernel
theorem dL_law_573 : decode cL_law 573 = .ok (.iaload, 1) := by decide +kernel
theorem dL_law_574 : decode cL_law 574 = .ok (.aload_n 0, 1) := by decide +kernel
theorem dL_law_575 : decode cL_law 575 = .ok (.iload_n 3, 1) := by decide +kernel
theorem dL_law_576 : decode cL_law 576 = .ok (.iconst 2, 1) := by decide +kernel
theorem dL_law_577 : decode cL_law 577 = .ok (.iadd, 1) := by decide +kernel
theorem dL_law_578 : decode cL_law 578 = .ok (.iaload, 1) := by decide +kernel
theorem dL_law_579 : decode cL_law 579 = .ok (.aload_n 0, 1) := by decide +kernel
theorem dL_law_580 : decode cL_law 580 = .ok (.iload_n 3, 1) := by decide +kernel
theorem dL_law_581 : decode cL_law 581 = .ok (.iconst 3, 1) := by decide +kernel
theorem dL_law_582 : decode cL_law 582 = .ok (.iadd, 1) := by decide +kernel
theorem dL_law_583 : decode cL_law 583 = .ok (.iaload, 1) := by decide +kernel
theorem dL_law_584 : decode cL_law 584 = .ok (.invokevirtual 66, 3) := by decide +kernel
theorem dL_law_587 : decode cL_law 587 = .ok (.aload_n 2, 1) := by decide +kernel
theorem dL_law_588 : decode cL_law 588 = .ok (.aload_n 0, 1) := by decide +kernel
theorem dL_law_589 : decode cL_law 589 = .ok (.iload_n 3, 1) := by decide +kernel
theorem dL_law_590 : decode cL_law 590 = .ok (.iconst 1, 1) := by decide +kernel
theorem dL_law_591 : decode cL_law 591 = .ok (.iadd, 1) := by decide +kernel
theorem dL_law_592 : decode cL_law 592 = .ok (.iaload, 1) := by decide +kernel
theorem dL_law_593 : decode cL_law 593 = .ok (.aload_n 0, 1) := by decide +kernel
theorem dL_law_594 : decode cL_law 594 = .ok (.iload_n 3, 1) := by decide +kernel
theorem dL_law_595 : decode cL_law 595 = .ok (.iconst 2, 1) := by decide +kernel
theorem dL_law_596 : decode cL_law 596 = .ok (.iadd, 1) := by decide +kernel
theorem dL_law_597 : decode cL_law 597 = .ok (.iaload, 1) := by decide +kernel
theorem dL_law_598 : decode cL_law 598 = .ok (.aload_n 0, 1) := by decide +kernel
theorem dL_law_599 : decode cL_law 599 = .ok (.iload_n 3, 1) := by decide +kernel
theorem dL_law_600 : decode cL_law 600 = .ok (.iconst 3, 1) := by decide +kernel
theorem dL_law_601 : decode cL_law 601 = .ok (.iadd, 1) := by decide +kernel
theorem dL_law_602 : decode cL_law 602 = .ok (.iaload, 1) := by decide +kernel
theorem dL_law_603 : decode cL_law 603 = .ok (.invokevirtual 69, 3) := by decide +kernel
theorem dL_law_606 : decode cL_law 606 = .ok (.if_icmp .eq 187, 3) := by decide +kernel
theorem dL_law_609 : decode cL_law 609 = .ok (.iconst 0, 1) := by decide +kernel
theorem dL_law_610 : decode cL_law 610 = .ok (.ireturn, 1) := by decide +kernel
theorem dL_law_611 : decode cL_law 611 = .ok (.aload_n 1, 1) := by decide +kernel
theorem dL_law_612 : decode cL_law 612 = .ok (.aload_n 0, 1) := by decide +kernel
theorem dL_law_613 : decode cL_law 613 = .ok (.iload_n 3, 1) := by decide +kernel
theorem dL_law_614 : decode cL_law 614 = .ok (.iconst 1, 1) := by decide +kernel
theorem dL_law_615 : decode cL_law 615 = .ok (.iadd, 1) := by decide +kernel
theorem dL_law_616 : decode cL_law 616 = .ok (.iaload, 1) := by decide +kernel
theorem dL_law_617 : decode cL_law 617 = .ok (.aload_n 0, 1) := by decide +kernel
theorem dL_law_618 : decode cL_law 618 = .ok (.iload_n 3, 1) := by decide +kernel
theorem dL_law_619 : decode cL_law 619 = .ok (.iconst 2, 1) := by decide +kernel
theorem dL_law_620 : decode cL_law 620 = .ok (.iadd, 1) := by decide +kernel
theorem dL_law_621 : decode cL_law 621 = .ok (.iaload, 1) := by decide +kernel
theorem dL_law_622 : decode cL_law 622 = .ok (.invokevirtual 70, 3) := by decide +kernel
theorem dL_law_625 : decode cL_law 625 = .ok (.aload_n 2, 1) := by decide +kernel
theorem dL_law_626 : decode cL_law 626 = .ok (.aload_n 0, 1) := by decide +kernel
theorem dL_law_627 : decode cL_law 627 = .ok (.iload_n 3, 1) := by decide +kernel
theorem dL_law_628 : decode cL_law 628 = .ok (.iconst 1, 1) := by decide +kernel
theorem dL_law_629 : decode cL_law 629 = .ok (.iadd, 1) := by decide +kernel
theorem dL_law_630 : decode cL_law 630 = .ok (.iaload, 1) := by decide +kernel
theorem dL_law_631 : decode cL_law 631 = .ok (.aload_n 0, 1) := by decide +kernel
theorem dL_law_632 : decode cL_law 632 = .ok (.iload_n 3, 1) := by decide +kernel
theorem dL_law_633 : decode cL_law 633 = .ok (.iconst 2, 1) := by decide +kernel
theorem dL_law_634 : decode cL_law 634 = .ok (.iadd, 1) := by decide +kernel
theorem dL_law_635 : decode cL_law 635 = .ok (.iaload, 1) := by decide +kernel
theorem dL_law_636 : decode cL_law 636 = .ok (.invokevirtual 73, 3) := by decide +kernel
theorem dL_law_639 : decode cL_law 639 = .ok (.if_icmp .eq 154, 3) := by decide +kernel
theorem dL_law_642 : decode cL_law 642 = .ok (.iconst 0, 1) := by decide +kernel
theorem dL_law_643 : decode cL_law 643 = .ok (.ireturn, 1) := by decide +kernel
theorem dL_law_644 : decode cL_law 644 = .ok (.aload_n 1, 1) := by decide +kernel
theorem dL_law_645 : decode cL_law 645 = .ok (.aload_n 0, 1) := by decide +kernel
theorem dL_law_646 : decode cL_law 646 = .ok (.iload_n 3, 1) := by decide +kernel
theorem dL_law_647 : decode cL_law 647 = .ok (.iconst 1, 1) := by decide +kernel
theorem dL_law_648 : decode cL_law 648 = .ok (.iadd, 1) := by decide +kernel
theorem dL_law_649 : decode cL_law 649 = .ok (.iaload, 1) := by decide +kernel
theorem dL_law_650 : decode cL_law 650 = .ok (.aload_n 0, 1) := by decide +kernel
theorem dL_law_651 : decode cL_law 651 = .ok (.iload_n 3, 1) := by decide +kernel
theorem dL_law_652 : decode cL_law 652 = .ok (.iconst 2, 1) := by decide +kernel
theorem dL_law_653 : decode cL_law 653 = .ok (.iadd, 1) := by decide +kernel
theorem dL_law_654 : decode cL_law 654 = .ok (.iaload, 1) := by decide +kernel
theorem dL_law_655 : decode cL_law 655 = .ok (.invokevirtual 74, 3) := by decide +kernel
theorem dL_law_658 : decode cL_law 658 = .ok (.aload_n 2, 1) := by decide +kernel
theorem dL_law_659 : decode cL_law 659 = .ok (.aload_n 0, 1) := by decide +kernel
theorem dL_law_660 : decode cL_law 660 = .ok (.iload_n 3, 1) := by decide +kernel
theorem dL_law_661 : decode cL_law 661 = .ok (.iconst 1, 1) := by decide +kernel
theorem dL_law_662 : decode cL_law 662 = .ok (.iadd, 1) := by decide +kernel
theorem dL_law_663 : decode cL_law 663 = .ok (.iaload, 1) := by decide +kernel
theorem dL_law_664 : decode cL_law 664 = .ok (.aload_n 0, 1) := by decide +kernel
theorem dL_law_665 : decode cL_law 665 = .ok (.iload_n 3, 1) := by decide +kernel
theorem dL_law_666 : decode cL_law 666 = .ok (.iconst 2, 1) := by decide +kernel
theorem dL_law_667 : decode cL_law 667 = .ok (.iadd, 1) := by decide +kernel
theorem dL_law_668 : decode cL_law 668 = .ok (.iaload, 1) := by decide +kernel
theorem dL_law_669 : decode cL_law 669 = .ok (.invokevirtual 77, 3) := by decide +kernel
theorem dL_law_672 : decode cL_law 672 = .ok (.if_icmp .eq 121, 3) := by decide +kernel
theorem dL_law_675 : decode cL_law 675 = .ok (.iconst 0, 1) := by decide +kernel
theorem dL_law_676 : decode cL_law 676 = .ok (.ireturn, 1) := by decide +kernel
theorem dL_law_677 : decode cL_law 677 = .ok (.aload_n 1, 1) := by decide +kernel
theorem dL_law_678 : decode cL_law 678 = .ok (.aload_n 0, 1) := by decide +kernel
theorem dL_law_679 : decode cL_law 679 = .ok (.iload_n 3, 1) := by decide +kernel
theorem dL_law_680 : decode cL_law 680 = .ok (.iconst 1, 1) := by decide +kernel
theorem dL_law_681 : decode cL_law 681 = .ok (.iadd, 1) := by decide +kernel
theorem dL_law_682 : decode cL_law 682 = .ok (.iaload, 1) := by decide +kernel
theorem dL_law_683 : decode cL_law 683 = .ok (.i2l, 1) := by decide +kernel
theorem dL_law_684 : decode cL_law 684 = .ok (.bipush 32, 2) := by decide +kernel
theorem dL_law_686 : decode cL_law 686 = .ok (.lshl, 1) := by decide +kernel
theorem dL_law_687 : decode cL_law 687 = .ok (.aload_n 0, 1) := by decide +kernel
theorem dL_law_688 : decode cL_law 688 = .ok (.iload_n 3, 1) := by decide +kernel
theorem dL_law_689 : decode cL_law 689 = .ok (.iconst 2, 1) := by decide +kernel
theorem dL_law_690 : decode cL_law 690 = .ok (.iadd, 1) := by decide +kernel
theorem dL_law_691 : decode cL_law 691 = .ok (.iaload, 1) := by decide +kernel
theorem dL_law_692 : decode cL_law 692 = .ok (.i2l, 1) := by decide +kernel
theorem dL_law_693 : decode cL_law 693 = .ok (.ldc2_w 78, 3) := by decide +kernel
theorem dL_law_696 : decode cL_law 696 = .ok (.land, 1) := by decide +kernel
theorem dL_law_697 : decode cL_law 697 = .ok (.lor, 1) := by decide +kernel
theorem dL_law_698 : decode cL_law 698 = .ok (.aload_n 0, 1) := by decide +kernel
theorem dL_law_699 : decode cL_law 699 = .ok (.iload_n 3, 1) := by decide +kernel
theorem dL_law_700 : decode cL_law 700 = .ok (.iconst 3, 1) := by decide +kernel
theorem dL_law_701 : decode cL_law 701 = .ok (.iadd, 1) := by decide +kernel
theorem dL_law_702 : decode cL_law 702 = .ok (.iaload, 1) := by decide +kernel
theorem dL_law_703 : decode cL_law 703 = .ok (.invokevirtual 80, 3) := by decide +kernel
theorem dL_law_706 : decode cL_law 706 = .ok (.aload_n 2, 1) := by decide +kernel
theorem dL_law_707 : decode cL_law 707 = .ok (.aload_n 0, 1) := by decide +kernel
theorem dL_law_708 : decode cL_law 708 = .ok (.iload_n 3, 1) := by decide +kernel
theorem dL_law_709 : decode cL_law 709 = .ok (.iconst 1, 1) := by decide +kernel
theorem dL_law_710 : decode cL_law 710 = .ok (.iadd, 1) := by decide +kernel
theorem dL_law_711 : decode cL_law 711 = .ok (.iaload, 1) := by decide +kernel
theorem dL_law_712 : decode cL_law 712 = .ok (.i2l, 1) := by decide +kernel
theorem dL_law_713 : decode cL_law 713 = .ok (.bipush 32, 2) := by decide +kernel
theorem dL_law_715 : decode cL_law 715 = .ok (.lshl, 1) := by decide +kernel
theorem dL_law_716 : decode cL_law 716 = .ok (.aload_n 0, 1) := by decide +kernel
theorem dL_law_717 : decode cL_law 717 = .ok (.iload_n 3, 1) := by decide +kernel
theorem dL_law_718 : decode cL_law 718 = .ok (.iconst 2, 1) := by decide +kernel
theorem dL_law_719 : decode cL_law 719 = .ok (.iadd, 1) := by decide +kernel
theorem dL_law_720 : decode cL_law 720 = .ok (.iaload, 1) := by decide +kernel
theorem dL_law_721 : decode cL_law 721 = .ok (.i2l, 1) := by decide +kernel
theorem dL_law_722 : decode cL_law 722 = .ok (.ldc2_w 78, 3) := by decide +kernel
theorem dL_law_725 : decode cL_law 725 = .ok (.land, 1) := by decide +kernel
theorem dL_law_726 : decode cL_law 726 = .ok (.lor, 1) := by decide +kernel
theorem dL_law_727 : decode cL_law 727 = .ok (.aload_n 0, 1) := by decide +kernel
theorem dL_law_728 : decode cL_law 728 = .ok (.iload_n 3, 1) := by decide +kernel
theorem dL_law_729 : decode cL_law 729 = .ok (.iconst 3, 1) := by decide +kernel
theorem dL_law_730 : decode cL_law 730 = .ok (.iadd, 1) := by decide +kernel
theorem dL_law_731 : decode cL_law 731 = .ok (.iaload, 1) := by decide +kernel
theorem dL_law_732 : decode cL_law 732 = .ok (.invokevirtual 84, 3) := by decide +kernel
theorem dL_law_735 : decode cL_law 735 = .ok (.if_icmp .eq 58, 3) := by decide +kernel
theorem dL_law_738 : decode cL_law 738 = .ok (.iconst 0, 1) := by decide +kernel
theorem dL_law_739 : decode cL_law 739 = .ok (.ireturn, 1) := by decide +kernel
theorem dL_law_740 : decode cL_law 740 = .ok (.aload_n 1, 1) := by decide +kernel
theorem dL_law_741 : decode cL_law 741 = .ok (.aload_n 0, 1) := by decide +kernel
theorem dL_law_742 : decode cL_law 742 = .ok (.iload_n 3, 1) := by decide +kernel
theorem dL_law_743 : decode cL_law 743 = .ok (.iconst 1, 1) := by decide +kernel
theorem dL_law_744 : decode cL_law 744 = .ok (.iadd, 1) := by decide +kernel
theorem dL_law_745 : decode cL_law 745 = .ok (.iaload, 1) := by decide +kernel
theorem dL_law_746 : decode cL_law 746 = .ok (.i2l, 1) := by decide +kernel
theorem dL_law_747 : decode cL_law 747 = .ok (.bipush 32, 2) := by decide +kernel
theorem dL_law_749 : decode cL_law 749 = .ok (.lshl, 1) := by decide +kernel
theorem dL_law_750 : decode cL_law 750 = .ok (.aload_n 0, 1) := by decide +kernel
theorem dL_law_751 : decode cL_law 751 = .ok (.iload_n 3, 1) := by decide +kernel
theorem dL_law_752 : decode cL_law 752 = .ok (.iconst 2, 1) := by decide +kernel
theorem dL_law_753 : decode cL_law 753 = .ok (.iadd, 1) := by decide +kernel
theorem dL_law_754 : decode cL_law 754 = .ok (.iaload, 1) := by decide +kernel
theorem dL_law_755 : decode cL_law 755 = .ok (.i2l, 1) := by decide +kernel
theorem dL_law_756 : decode cL_law 756 = .ok (.ldc2_w 78, 3) := by decide +kernel
theorem dL_law_759 : decode cL_law 759 = .ok (.land, 1) := by decide +kernel
theorem dL_law_760 : decode cL_law 760 = .ok (.lor, 1) := by decide +kernel
theorem dL_law_761 : decode cL_law 761 = .ok (.invokevirtual 85, 3) := by decide +kernel
theorem dL_law_764 : decode cL_law 764 = .ok (.aload_n 2, 1) := by decide +kernel
theorem dL_law_765 : decode cL_law 765 = .ok (.aload_n 0, 1) := by decide +kernel
theorem dL_law_766 : decode cL_law 766 = .ok (.iload_n 3, 1) := by decide +kernel
theorem dL_law_767 : decode cL_law 767 = .ok (.iconst 1, 1) := by decide +kernel
theorem dL_law_768 : decode cL_law 768 = .ok (.iadd, 1) := by decide +kernel
theorem dL_law_769 : decode cL_law 769 = .ok (.iaload, 1) := by decide +kernel
theorem dL_law_770 : decode cL_law 770 = .ok (.i2l, 1) := by decide +kernel
theorem dL_law_771 : decode cL_law 771 = .ok (.bipush 32, 2) := by decide +kernel
theorem dL_law_773 : decode cL_law 773 = .ok (.lshl, 1) := by decide +kernel
theorem dL_law_774 : decode cL_law 774 = .ok (.aload_n 0, 1) := by decide +kernel
theorem dL_law_775 : decode cL_law 775 = .ok (.iload_n 3, 1) := by decide +kernel
theorem dL_law_776 : decode cL_law 776 = .ok (.iconst 2, 1) := by decide +kernel
theorem dL_law_777 : decode cL_law 777 = .ok (.iadd, 1) := by decide +kernel
theorem dL_law_778 : decode cL_law 778 = .ok (.iaload, 1) := by decide +kernel
theorem dL_law_779 : decode cL_law 779 = .ok (.i2l, 1) := by decide +kernel
theorem dL_law_780 : decode cL_law 780 = .ok (.ldc2_w 78, 3) := by decide +kernel
theorem dL_law_783 : decode cL_law 783 = .ok (.land, 1) := by decide +kernel
theorem dL_law_784 : decode cL_law 784 = .ok (.lor, 1) := by decide +kernel
theorem dL_law_785 : decode cL_law 785 = .ok (.invokevirtual 89, 3) := by decide +kernel
theorem dL_law_788 : decode cL_law 788 = .ok (.if_icmp .eq 5, 3) := by decide +kernel
theorem dL_law_791 : decode cL_law 791 = .ok (.iconst 0, 1) := by decide +kernel
theorem dL_law_792 : decode cL_law 792 = .ok (.ireturn, 1) := by decide +kernel
theorem dL_law_793 : decode cL_law 793 = .ok (.iinc 3 5, 3) := by decide +kernel
theorem dL_law_796 : decode cL_law 796 = .ok (.goto (-778), 3) := by decide +kernel
theorem dL_law_799 : decode cL_law 799 = .ok (.iconst 1, 1) := by decide +kernel
theorem dL_law_800 : decode cL_law 800 = .ok (.ireturn, 1) := by decide +kernel
