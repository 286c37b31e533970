abbrev nb_Nj_init : ByteArray := prog_1_method_1_code
abbrev ny_Nj_init : MethodName := ⟨"NobodyJoins", "<init>", "()V"⟩
abbrev nb_Club_init : ByteArray := prog_2_method_1_code
abbrev ny_Club_init : MethodName := ⟨"NobodyJoins$Club", "<init>", "()V"⟩
abbrev nb_Reader_init : ByteArray := prog_5_method_1_code
abbrev ny_Reader_init : MethodName := ⟨"NobodyJoins$Reader", "<init>", "()V"⟩
abbrev nb_Orders_init : ByteArray := prog_3_method_1_code
abbrev ny_Orders_init : MethodName := ⟨"NobodyJoins$Orders", "<init>", "()V"⟩
abbrev nb_Row_init : ByteArray := prog_6_method_1_code
abbrev ny_Row_init : MethodName := ⟨"NobodyJoins$Row", "<init>", "()V"⟩
abbrev nb_Text_init : ByteArray := prog_8_method_1_code
abbrev ny_Text_init : MethodName := ⟨"NobodyJoins$Text", "<init>", "()V"⟩
abbrev nb_Nj_row : ByteArray := prog_1_method_2_code
abbrev ny_Nj_row : MethodName := ⟨"NobodyJoins", "row", "(II)I"⟩
set_option maxRecDepth 100000 in
theorem my_Nj_row : nj_MV ny_Nj_row nb_Nj_row 3 (some .int) 2 := ⟨nj_T0_in (List.mem_of_getElem? (i := 234) (by decide +kernel)) (by decide +kernel), nj_T0_in (List.mem_of_getElem? (i := 235) (by decide +kernel)) (by decide +kernel), nj_T0_in (List.mem_of_getElem? (i := 66) (by decide +kernel)) (by decide +kernel), nj_T0_in (List.mem_of_getElem? (i := 236) rfl) (by decide +kernel), by decide +kernel⟩
abbrev nb_Nj_isRow : ByteArray := prog_1_method_47_code
abbrev ny_Nj_isRow : MethodName := ⟨"NobodyJoins", "isRow", "(I)Z"⟩
set_option maxRecDepth 100000 in
theorem my_Nj_isRow : nj_MS ny_Nj_isRow nb_Nj_isRow 1 (some .boolean) 1 := ⟨nj_T0_in (List.mem_of_getElem? (i := 238) (by decide +kernel)) (by decide +kernel), nj_T0_in (List.mem_of_getElem? (i := 66) (by decide +kernel)) (by decide +kernel), nj_T0_in (List.mem_of_getElem? (i := 239) rfl) (by decide +kernel), by decide +kernel⟩
abbrev nb_Nj_found : ByteArray := prog_1_method_55_code
abbrev ny_Nj_found : MethodName := ⟨"NobodyJoins", "found", "(I)I"⟩
set_option maxRecDepth 100000 in
theorem my_Nj_found : nj_MV ny_Nj_found nb_Nj_found 2 (some .int) 1 := ⟨nj_T0_in (List.mem_of_getElem? (i := 242) (by decide +kernel)) (by decide +kernel), nj_T0_in (List.mem_of_getElem? (i := 0) (by decide +kernel)) (by decide +kernel), nj_T0_in (List.mem_of_getElem? (i := 66) (by decide +kernel)) (by decide +kernel), nj_T0_in (List.mem_of_getElem? (i := 243) rfl) (by decide +kernel), by decide +kernel⟩
abbrev nb_Row_renew : ByteArray := prog_6_method_2_code
abbrev ny_Row_renew : MethodName := ⟨"NobodyJoins$Row", "renew", "(I)V"⟩
set_option maxRecDepth 100000 in
theorem my_Row_renew : nj_MV ny_Row_renew nb_Row_renew 3 none 1 := ⟨nj_T0_in (List.mem_of_getElem? (i := 245) (by decide +kernel)) (by decide +kernel), nj_T0_in (List.mem_of_getElem? (i := 246) (by decide +kernel)) (by decide +kernel), nj_T0_in (List.mem_of_getElem? (i := 70) (by decide +kernel)) (by decide +kernel), nj_T0_in (List.mem_of_getElem? (i := 247) rfl) (by decide +kernel), by decide +kernel⟩
abbrev nb_Nj_lay : ByteArray := prog_1_method_3_code
abbrev ny_Nj_lay : MethodName := ⟨"NobodyJoins", "lay", "(III)I"⟩
set_option maxRecDepth 100000 in
theorem my_Nj_lay : nj_MV ny_Nj_lay nb_Nj_lay 5 (some .int) 3 := ⟨nj_T0_in (List.mem_of_getElem? (i := 249) (by decide +kernel)) (by decide +kernel), nj_T0_in (List.mem_of_getElem? (i := 250) (by decide +kernel)) (by decide +kernel), nj_T0_in (List.mem_of_getElem? (i := 66) (by decide +kernel)) (by decide +kernel), nj_T0_in (List.mem_of_getElem? (i := 251) rfl) (by decide +kernel), by decide +kernel⟩
abbrev nb_Nj_refusalOfPlace : ByteArray := prog_1_method_52_code
abbrev ny_Nj_refusalOfPlace : MethodName := ⟨"NobodyJoins", "refusalOfPlace", "(II)I"⟩
set_option maxRecDepth 100000 in
theorem my_Nj_refusalOfPlace : nj_MV ny_Nj_refusalOfPlace nb_Nj_refusalOfPlace 3 (some .int) 2 := ⟨nj_T0_in (List.mem_of_getElem? (i := 254) (by decide +kernel)) (by decide +kernel), nj_T0_in (List.mem_of_getElem? (i := 1) (by decide +kernel)) (by decide +kernel), nj_T0_in (List.mem_of_getElem? (i := 66) (by decide +kernel)) (by decide +kernel), nj_T0_in (List.mem_of_getElem? (i := 255) rfl) (by decide +kernel), by decide +kernel⟩
abbrev nb_Row_isMissing : ByteArray := prog_6_method_3_code
abbrev ny_Row_isMissing : MethodName := ⟨"NobodyJoins$Row", "isMissing", "()Z"⟩
set_option maxRecDepth 100000 in
theorem my_Row_isMissing : nj_MV ny_Row_isMissing nb_Row_isMissing 1 (some .boolean) 0 := ⟨nj_T0_in (List.mem_of_getElem? (i := 257) (by decide +kernel)) (by decide +kernel), nj_T0_in (List.mem_of_getElem? (i := 258) (by decide +kernel)) (by decide +kernel), nj_T0_in (List.mem_of_getElem? (i := 70) (by decide +kernel)) (by decide +kernel), nj_T0_in (List.mem_of_getElem? (i := 259) rfl) (by decide +kernel), by decide +kernel⟩
abbrev nb_Row_hasPlace : ByteArray := prog_6_method_4_code
abbrev ny_Row_hasPlace : MethodName := ⟨"NobodyJoins$Row", "hasPlace", "(I)Z"⟩
set_option maxRecDepth 100000 in
theorem my_Row_hasPlace : nj_MV ny_Row_hasPlace nb_Row_hasPlace 2 (some .boolean) 1 := ⟨nj_T0_in (List.mem_of_getElem? (i := 261) (by decide +kernel)) (by decide +kernel), nj_T0_in (List.mem_of_getElem? (i := 262) (by decide +kernel)) (by decide +kernel), nj_T0_in (List.mem_of_getElem? (i := 70) (by decide +kernel)) (by decide +kernel), nj_T0_in (List.mem_of_getElem? (i := 263) rfl) (by decide +kernel), by decide +kernel⟩
abbrev nb_Nj_at : ByteArray := prog_1_method_4_code
abbrev ny_Nj_at : MethodName := ⟨"NobodyJoins", "at", "(II)I"⟩
set_option maxRecDepth 100000 in
theorem my_Nj_at : nj_MV ny_Nj_at nb_Nj_at 4 (some .int) 2 := ⟨nj_T0_in (List.mem_of_getElem? (i := 265) (by decide +kernel)) (by decide +kernel), nj_T0_in (List.mem_of_getElem? (i := 266) (by decide +kernel)) (by decide +kernel), nj_T0_in (List.mem_of_getElem? (i := 66) (by decide +kernel)) (by decide +kernel), nj_T0_in (List.mem_of_getElem? (i := 267) rfl) (by decide +kernel), by decide +kernel⟩
abbrev nb_Nj_tear : ByteArray := prog_1_method_5_code
abbrev ny_Nj_tear : MethodName := ⟨"NobodyJoins", "tear", "(I)I"⟩
set_option maxRecDepth 100000 in
theorem my_Nj_tear : nj_MV ny_Nj_tear nb_Nj_tear 2 (some .int) 1 := ⟨nj_T0_in (List.mem_of_getElem? (i := 269) (by decide +kernel)) (by decide +kernel), nj_T0_in (List.mem_of_getElem? (i := 270) (by decide +kernel)) (by decide +kernel), nj_T0_in (List.mem_of_getElem? (i := 66) (by decide +kernel)) (by decide +kernel), nj_T0_in (List.mem_of_getElem? (i := 271) rfl) (by decide +kernel), by decide +kernel⟩
abbrev nb_Nj_copy : ByteArray := prog_1_method_6_code
abbrev ny_Nj_copy : MethodName := ⟨"NobodyJoins", "copy", "(IIIII)I"⟩
set_option maxRecDepth 100000 in
theorem my_Nj_copy : nj_MV ny_Nj_copy nb_Nj_copy 6 (some .int) 5 := ⟨nj_T0_in (List.mem_of_getElem? (i := 273) (by decide +kernel)) (by decide +kernel), nj_T0_in (List.mem_of_getElem? (i := 274) (by decide +kernel)) (by decide +kernel), nj_T0_in (List.mem_of_getElem? (i := 66) (by decide +kernel)) (by decide +kernel), nj_T0_in (List.mem_of_getElem? (i := 275) rfl) (by decide +kernel), by decide +kernel⟩
abbrev nb_Row_hasPlaces : ByteArray := prog_6_method_5_code
abbrev ny_Row_hasPlaces : MethodName := ⟨"NobodyJoins$Row", "hasPlaces", "(II)Z"⟩
set_option maxRecDepth 100000 in
theorem my_Row_hasPlaces : nj_MV ny_Row_hasPlaces nb_Row_hasPlaces 3 (some .boolean) 2 := ⟨nj_T0_in (List.mem_of_getElem? (i := 277) (by decide +kernel)) (by decide +kernel), nj_T0_in (List.mem_of_getElem? (i := 278) (by decide +kernel)) (by decide +kernel), nj_T0_in (List.mem_of_getElem? (i := 70) (by decide +kernel)) (by decide +kernel), nj_T0_in (List.mem_of_getElem? (i := 279) rfl) (by decide +kernel), by decide +kernel⟩
abbrev nb_Nj_mean : ByteArray := prog_1_method_7_code
abbrev ny_Nj_mean : MethodName := ⟨"NobodyJoins", "mean", "(I)I"⟩
set_option maxRecDepth 100000 in
theorem my_Nj_mean : nj_MV ny_Nj_mean nb_Nj_mean 3 (some .int) 1 := ⟨nj_T0_in (List.mem_of_getElem? (i := 284) (by decide +kernel)) (by decide +kernel), nj_T0_in (List.mem_of_getElem? (i := 285) (by decide +kernel)) (by decide +kernel), nj_T0_in (List.mem_of_getElem? (i := 66) (by decide +kernel)) (by decide +kernel), nj_T0_in (List.mem_of_getElem? (i := 286) rfl) (by decide +kernel), by decide +kernel⟩
abbrev nb_Row_sum : ByteArray := prog_6_method_6_code
abbrev ny_Row_sum : MethodName := ⟨"NobodyJoins$Row", "sum", "()J"⟩
set_option maxRecDepth 100000 in
theorem my_Row_sum : nj_MV ny_Row_sum nb_Row_sum 4 (some .long) 0 := ⟨nj_T0_in (List.mem_of_getElem? (i := 288) (by decide +kernel)) (by decide +kernel), nj_T0_in (List.mem_of_getElem? (i := 289) (by decide +kernel)) (by decide +kernel), nj_T0_in (List.mem_of_getElem? (i := 70) (by decide +kernel)) (by decide +kernel), nj_T0_in (List.mem_of_getElem? (i := 290) rfl) (by decide +kernel), by decide +kernel⟩
abbrev nb_Nj_text : ByteArray := prog_1_method_8_code
abbrev ny_Nj_text : MethodName := ⟨"NobodyJoins", "text", "(II)I"⟩
set_option maxRecDepth 100000 in
theorem my_Nj_text : nj_MV ny_Nj_text nb_Nj_text 3 (some .int) 2 := ⟨nj_T0_in (List.mem_of_getElem? (i := 292) (by decide +kernel)) (by decide +kernel), nj_T0_in (List.mem_of_getElem? (i := 293) (by decide +kernel)) (by decide +kernel), nj_T0_in (List.mem_of_getElem? (i := 66) (by decide +kernel)) (by decide +kernel), nj_T0_in (List.mem_of_getElem? (i := 294) rfl) (by decide +kernel), by decide +kernel⟩
abbrev nb_Nj_isText : ByteArray := prog_1_method_48_code
abbrev ny_Nj_isText : MethodName := ⟨"NobodyJoins", "isText", "(I)Z"⟩
set_option maxRecDepth 100000 in
theorem my_Nj_isText : nj_MS ny_Nj_isText nb_Nj_isText 1 (some .boolean) 1 := ⟨nj_T0_in (List.mem_of_getElem? (i := 296) (by decide +kernel)) (by decide +kernel), nj_T0_in (List.mem_of_getElem? (i := 66) (by decide +kernel)) (by decide +kernel), nj_T0_in (List.mem_of_getElem? (i := 297) rfl) (by decide +kernel), by decide +kernel⟩
abbrev nb_Text_renew : ByteArray := prog_8_method_2_code
abbrev ny_Text_renew : MethodName := ⟨"NobodyJoins$Text", "renew", "(I)V"⟩
set_option maxRecDepth 100000 in
theorem my_Text_renew : nj_MV ny_Text_renew nb_Text_renew 3 none 1 := ⟨nj_T0_in (List.mem_of_getElem? (i := 299) (by decide +kernel)) (by decide +kernel), nj_T0_in (List.mem_of_getElem? (i := 300) (by decide +kernel)) (by decide +kernel), nj_T0_in (List.mem_of_getElem? (i := 71) (by decide +kernel)) (by decide +kernel), nj_T0_in (List.mem_of_getElem? (i := 301) rfl) (by decide +kernel), by decide +kernel⟩
abbrev nb_Nj_put : ByteArray := prog_1_method_9_code
abbrev ny_Nj_put : MethodName := ⟨"NobodyJoins", "put", "(III)I"⟩
set_option maxRecDepth 100000 in
theorem my_Nj_put : nj_MV ny_Nj_put nb_Nj_put 6 (some .int) 3 := ⟨nj_T0_in (List.mem_of_getElem? (i := 303) (by decide +kernel)) (by decide +kernel), nj_T0_in (List.mem_of_getElem? (i := 304) (by decide +kernel)) (by decide +kernel), nj_T0_in (List.mem_of_getElem? (i := 66) (by decide +kernel)) (by decide +kernel), nj_T0_in (List.mem_of_getElem? (i := 305) rfl) (by decide +kernel), by decide +kernel⟩
abbrev nb_Text_isMissing : ByteArray := prog_8_method_3_code
abbrev ny_Text_isMissing : MethodName := ⟨"NobodyJoins$Text", "isMissing", "()Z"⟩
set_option maxRecDepth 100000 in
theorem my_Text_isMissing : nj_MV ny_Text_isMissing nb_Text_isMissing 1 (some .boolean) 0 := ⟨nj_T0_in (List.mem_of_getElem? (i := 307) (by decide +kernel)) (by decide +kernel), nj_T0_in (List.mem_of_getElem? (i := 308) (by decide +kernel)) (by decide +kernel), nj_T0_in (List.mem_of_getElem? (i := 71) (by decide +kernel)) (by decide +kernel), nj_T0_in (List.mem_of_getElem? (i := 309) rfl) (by decide +kernel), by decide +kernel⟩
abbrev nb_Text_hasPlace : ByteArray := prog_8_method_4_code
abbrev ny_Text_hasPlace : MethodName := ⟨"NobodyJoins$Text", "hasPlace", "(I)Z"⟩
set_option maxRecDepth 100000 in
theorem my_Text_hasPlace : nj_MV ny_Text_hasPlace nb_Text_hasPlace 2 (some .boolean) 1 := ⟨nj_T0_in (List.mem_of_getElem? (i := 311) (by decide +kernel)) (by decide +kernel), nj_T0_in (List.mem_of_getElem? (i := 312) (by decide +kernel)) (by decide +kernel), nj_T0_in (List.mem_of_getElem? (i := 71) (by decide +kernel)) (by decide +kernel), nj_T0_in (List.mem_of_getElem? (i := 313) rfl) (by decide +kernel), by decide +kernel⟩
abbrev nb_Nj_fault : ByteArray := prog_1_method_10_code
abbrev ny_Nj_fault : MethodName := ⟨"NobodyJoins", "fault", "(I)I"⟩
set_option maxRecDepth 100000 in
theorem my_Nj_fault : nj_MV ny_Nj_fault nb_Nj_fault 2 (some .int) 1 := ⟨nj_T0_in (List.mem_of_getElem? (i := 315) (by decide +kernel)) (by decide +kernel), nj_T0_in (List.mem_of_getElem? (i := 316) (by decide +kernel)) (by decide +kernel), nj_T0_in (List.mem_of_getElem? (i := 66) (by decide +kernel)) (by decide +kernel), nj_T0_in (List.mem_of_getElem? (i := 317) rfl) (by decide +kernel), by decide +kernel⟩
abbrev nb_Reader_readClub : ByteArray := prog_5_method_2_code
abbrev ny_Reader_readClub : MethodName := ⟨"NobodyJoins$Reader", "readClub", "(LNobodyJoins$Text;LNobodyJoins$Club;)I"⟩
set_option maxRecDepth 100000 in
theorem my_Reader_readClub : nj_MV ny_Reader_readClub nb_Reader_readClub 5 (some .int) 2 := ⟨nj_T0_in (List.mem_of_getElem? (i := 319) (by decide +kernel)) (by decide +kernel), nj_T0_in (List.mem_of_getElem? (i := 320) (by decide +kernel)) (by decide +kernel), nj_T0_in (List.mem_of_getElem? (i := 68) (by decide +kernel)) (by decide +kernel), nj_T0_in (List.mem_of_getElem? (i := 321) rfl) (by decide +kernel), by decide +kernel⟩
abbrev nb_Club_clear : ByteArray := prog_2_method_2_code
abbrev ny_Club_clear : MethodName := ⟨"NobodyJoins$Club", "clear", "()V"⟩
set_option maxRecDepth 100000 in
theorem my_Club_clear : nj_MV ny_Club_clear nb_Club_clear 1 none 0 := ⟨nj_T0_in (List.mem_of_getElem? (i := 323) (by decide +kernel)) (by decide +kernel), nj_T0_in (List.mem_of_getElem? (i := 324) (by decide +kernel)) (by decide +kernel), nj_T0_in (List.mem_of_getElem? (i := 67) (by decide +kernel)) (by decide +kernel), nj_T0_in (List.mem_of_getElem? (i := 325) rfl) (by decide +kernel), by decide +kernel⟩
abbrev nb_Reader_skipBlanks : ByteArray := prog_5_method_6_code
abbrev ny_Reader_skipBlanks : MethodName := ⟨"NobodyJoins$Reader", "skipBlanks", "(LNobodyJoins$Text;)V"⟩
set_option maxRecDepth 100000 in
theorem my_Reader_skipBlanks : nj_MV ny_Reader_skipBlanks nb_Reader_skipBlanks 2 none 1 := ⟨nj_T0_in (List.mem_of_getElem? (i := 328) (by decide +kernel)) (by decide +kernel), nj_T0_in (List.mem_of_getElem? (i := 2) (by decide +kernel)) (by decide +kernel), nj_T0_in (List.mem_of_getElem? (i := 68) (by decide +kernel)) (by decide +kernel), nj_T0_in (List.mem_of_getElem? (i := 329) rfl) (by decide +kernel), by decide +kernel⟩
abbrev nb_Text_signAt : ByteArray := prog_8_method_5_code
abbrev ny_Text_signAt : MethodName := ⟨"NobodyJoins$Text", "signAt", "(I)I"⟩
set_option maxRecDepth 100000 in
theorem my_Text_signAt : nj_MV ny_Text_signAt nb_Text_signAt 2 (some .int) 1 := ⟨nj_T0_in (List.mem_of_getElem? (i := 331) (by decide +kernel)) (by decide +kernel), nj_T0_in (List.mem_of_getElem? (i := 332) (by decide +kernel)) (by decide +kernel), nj_T0_in (List.mem_of_getElem? (i := 71) (by decide +kernel)) (by decide +kernel), nj_T0_in (List.mem_of_getElem? (i := 333) rfl) (by decide +kernel), by decide +kernel⟩
abbrev nb_Reader_readRule : ByteArray := prog_5_method_3_code
abbrev ny_Reader_readRule : MethodName := ⟨"NobodyJoins$Reader", "readRule", "(LNobodyJoins$Text;LNobodyJoins$Club;)Z"⟩
set_option maxRecDepth 100000 in
theorem my_Reader_readRule : nj_MV ny_Reader_readRule nb_Reader_readRule 4 (some .boolean) 2 := ⟨nj_T0_in (List.mem_of_getElem? (i := 337) (by decide +kernel)) (by decide +kernel), nj_T0_in (List.mem_of_getElem? (i := 3) (by decide +kernel)) (by decide +kernel), nj_T0_in (List.mem_of_getElem? (i := 68) (by decide +kernel)) (by decide +kernel), nj_T0_in (List.mem_of_getElem? (i := 338) rfl) (by decide +kernel), by decide +kernel⟩
abbrev nb_Text_figureAt : ByteArray := prog_8_method_6_code
abbrev ny_Text_figureAt : MethodName := ⟨"NobodyJoins$Text", "figureAt", "(II)I"⟩
set_option maxRecDepth 100000 in
theorem my_Text_figureAt : nj_MV ny_Text_figureAt nb_Text_figureAt 4 (some .int) 2 := ⟨nj_T0_in (List.mem_of_getElem? (i := 340) (by decide +kernel)) (by decide +kernel), nj_T0_in (List.mem_of_getElem? (i := 341) (by decide +kernel)) (by decide +kernel), nj_T0_in (List.mem_of_getElem? (i := 71) (by decide +kernel)) (by decide +kernel), nj_T0_in (List.mem_of_getElem? (i := 342) rfl) (by decide +kernel), by decide +kernel⟩
abbrev nb_Reader_readPair : ByteArray := prog_5_method_5_code
abbrev ny_Reader_readPair : MethodName := ⟨"NobodyJoins$Reader", "readPair", "(LNobodyJoins$Text;LNobodyJoins$Club;)Z"⟩
set_option maxRecDepth 100000 in
theorem my_Reader_readPair : nj_MV ny_Reader_readPair nb_Reader_readPair 5 (some .boolean) 2 := ⟨nj_T0_in (List.mem_of_getElem? (i := 346) (by decide +kernel)) (by decide +kernel), nj_T0_in (List.mem_of_getElem? (i := 4) (by decide +kernel)) (by decide +kernel), nj_T0_in (List.mem_of_getElem? (i := 68) (by decide +kernel)) (by decide +kernel), nj_T0_in (List.mem_of_getElem? (i := 347) rfl) (by decide +kernel), by decide +kernel⟩
abbrev nb_Club_toggleLiking : ByteArray := prog_2_method_25_code
abbrev ny_Club_toggleLiking : MethodName := ⟨"NobodyJoins$Club", "toggleLiking", "(II)V"⟩
set_option maxRecDepth 100000 in
theorem my_Club_toggleLiking : nj_MV ny_Club_toggleLiking nb_Club_toggleLiking 3 none 2 := ⟨nj_T0_in (List.mem_of_getElem? (i := 349) (by decide +kernel)) (by decide +kernel), nj_T0_in (List.mem_of_getElem? (i := 350) (by decide +kernel)) (by decide +kernel), nj_T0_in (List.mem_of_getElem? (i := 67) (by decide +kernel)) (by decide +kernel), nj_T0_in (List.mem_of_getElem? (i := 351) rfl) (by decide +kernel), by decide +kernel⟩
abbrev nb_Reader_readChild : ByteArray := prog_5_method_4_code
abbrev ny_Reader_readChild : MethodName := ⟨"NobodyJoins$Reader", "readChild", "(LNobodyJoins$Text;LNobodyJoins$Club;)Z"⟩
set_option maxRecDepth 100000 in
theorem my_Reader_readChild : nj_MV ny_Reader_readChild nb_Reader_readChild 5 (some .boolean) 2 := ⟨nj_T0_in (List.mem_of_getElem? (i := 354) (by decide +kernel)) (by decide +kernel), nj_T0_in (List.mem_of_getElem? (i := 5) (by decide +kernel)) (by decide +kernel), nj_T0_in (List.mem_of_getElem? (i := 68) (by decide +kernel)) (by decide +kernel), nj_T0_in (List.mem_of_getElem? (i := 355) rfl) (by decide +kernel), by decide +kernel⟩
abbrev nb_Reader_kindOf : ByteArray := prog_5_method_7_code
abbrev ny_Reader_kindOf : MethodName := ⟨"NobodyJoins$Reader", "kindOf", "(I)I"⟩
set_option maxRecDepth 100000 in
theorem my_Reader_kindOf : nj_MS ny_Reader_kindOf nb_Reader_kindOf 2 (some .int) 1 := ⟨nj_T0_in (List.mem_of_getElem? (i := 357) (by decide +kernel)) (by decide +kernel), nj_T0_in (List.mem_of_getElem? (i := 68) (by decide +kernel)) (by decide +kernel), nj_T0_in (List.mem_of_getElem? (i := 358) rfl) (by decide +kernel), by decide +kernel⟩
abbrev nb_Club_addChild : ByteArray := prog_2_method_4_code
abbrev ny_Club_addChild : MethodName := ⟨"NobodyJoins$Club", "addChild", "(II)V"⟩
set_option maxRecDepth 100000 in
theorem my_Club_addChild : nj_MV ny_Club_addChild nb_Club_addChild 3 none 2 := ⟨nj_T0_in (List.mem_of_getElem? (i := 362) (by decide +kernel)) (by decide +kernel), nj_T0_in (List.mem_of_getElem? (i := 363) (by decide +kernel)) (by decide +kernel), nj_T0_in (List.mem_of_getElem? (i := 67) (by decide +kernel)) (by decide +kernel), nj_T0_in (List.mem_of_getElem? (i := 364) rfl) (by decide +kernel), by decide +kernel⟩
abbrev nb_Nj_club : ByteArray := prog_1_method_11_code
abbrev ny_Nj_club : MethodName := ⟨"NobodyJoins", "club", "(I)I"⟩
set_option maxRecDepth 100000 in
theorem my_Nj_club : nj_MV ny_Nj_club nb_Nj_club 3 (some .int) 1 := ⟨nj_T0_in (List.mem_of_getElem? (i := 366) (by decide +kernel)) (by decide +kernel), nj_T0_in (List.mem_of_getElem? (i := 367) (by decide +kernel)) (by decide +kernel), nj_T0_in (List.mem_of_getElem? (i := 66) (by decide +kernel)) (by decide +kernel), nj_T0_in (List.mem_of_getElem? (i := 368) rfl) (by decide +kernel), by decide +kernel⟩
abbrev nb_Club_become : ByteArray := prog_2_method_3_code
abbrev ny_Club_become : MethodName := ⟨"NobodyJoins$Club", "become", "(LNobodyJoins$Club;)V"⟩
set_option maxRecDepth 100000 in
theorem my_Club_become : nj_MV ny_Club_become nb_Club_become 2 none 1 := ⟨nj_T0_in (List.mem_of_getElem? (i := 370) (by decide +kernel)) (by decide +kernel), nj_T0_in (List.mem_of_getElem? (i := 371) (by decide +kernel)) (by decide +kernel), nj_T0_in (List.mem_of_getElem? (i := 67) (by decide +kernel)) (by decide +kernel), nj_T0_in (List.mem_of_getElem? (i := 372) rfl) (by decide +kernel), by decide +kernel⟩
abbrev nb_Nj_child : ByteArray := prog_1_method_12_code
abbrev ny_Nj_child : MethodName := ⟨"NobodyJoins", "child", "(II)I"⟩
set_option maxRecDepth 100000 in
theorem my_Nj_child : nj_MV ny_Nj_child nb_Nj_child 3 (some .int) 2 := ⟨nj_T0_in (List.mem_of_getElem? (i := 376) (by decide +kernel)) (by decide +kernel), nj_T0_in (List.mem_of_getElem? (i := 377) (by decide +kernel)) (by decide +kernel), nj_T0_in (List.mem_of_getElem? (i := 66) (by decide +kernel)) (by decide +kernel), nj_T0_in (List.mem_of_getElem? (i := 378) rfl) (by decide +kernel), by decide +kernel⟩
abbrev nb_Nj_isChild : ByteArray := prog_1_method_50_code
abbrev ny_Nj_isChild : MethodName := ⟨"NobodyJoins", "isChild", "(I)Z"⟩
set_option maxRecDepth 100000 in
theorem my_Nj_isChild : nj_MV ny_Nj_isChild nb_Nj_isChild 2 (some .boolean) 1 := ⟨nj_T0_in (List.mem_of_getElem? (i := 381) (by decide +kernel)) (by decide +kernel), nj_T0_in (List.mem_of_getElem? (i := 6) (by decide +kernel)) (by decide +kernel), nj_T0_in (List.mem_of_getElem? (i := 66) (by decide +kernel)) (by decide +kernel), nj_T0_in (List.mem_of_getElem? (i := 382) rfl) (by decide +kernel), by decide +kernel⟩
abbrev nb_Club_valueOf : ByteArray := prog_2_method_11_code
abbrev ny_Club_valueOf : MethodName := ⟨"NobodyJoins$Club", "valueOf", "(II)I"⟩
set_option maxRecDepth 100000 in
theorem my_Club_valueOf : nj_MV ny_Club_valueOf nb_Club_valueOf 3 (some .int) 2 := ⟨nj_T0_in (List.mem_of_getElem? (i := 384) (by decide +kernel)) (by decide +kernel), nj_T0_in (List.mem_of_getElem? (i := 385) (by decide +kernel)) (by decide +kernel), nj_T0_in (List.mem_of_getElem? (i := 67) (by decide +kernel)) (by decide +kernel), nj_T0_in (List.mem_of_getElem? (i := 386) rfl) (by decide +kernel), by decide +kernel⟩
abbrev nb_Club_votesOf : ByteArray := prog_2_method_9_code
abbrev ny_Club_votesOf : MethodName := ⟨"NobodyJoins$Club", "votesOf", "(I)I"⟩
set_option maxRecDepth 100000 in
theorem my_Club_votesOf : nj_MV ny_Club_votesOf nb_Club_votesOf 3 (some .int) 1 := ⟨nj_T0_in (List.mem_of_getElem? (i := 388) (by decide +kernel)) (by decide +kernel), nj_T0_in (List.mem_of_getElem? (i := 389) (by decide +kernel)) (by decide +kernel), nj_T0_in (List.mem_of_getElem? (i := 67) (by decide +kernel)) (by decide +kernel), nj_T0_in (List.mem_of_getElem? (i := 390) rfl) (by decide +kernel), by decide +kernel⟩
abbrev nb_Club_likingsOf : ByteArray := prog_2_method_8_code
abbrev ny_Club_likingsOf : MethodName := ⟨"NobodyJoins$Club", "likingsOf", "(I)I"⟩
set_option maxRecDepth 100000 in
theorem my_Club_likingsOf : nj_MV ny_Club_likingsOf nb_Club_likingsOf 4 (some .int) 1 := ⟨nj_T0_in (List.mem_of_getElem? (i := 394) (by decide +kernel)) (by decide +kernel), nj_T0_in (List.mem_of_getElem? (i := 395) (by decide +kernel)) (by decide +kernel), nj_T0_in (List.mem_of_getElem? (i := 67) (by decide +kernel)) (by decide +kernel), nj_T0_in (List.mem_of_getElem? (i := 396) rfl) (by decide +kernel), by decide +kernel⟩
abbrev nb_Nj_mark : ByteArray := prog_1_method_13_code
abbrev ny_Nj_mark : MethodName := ⟨"NobodyJoins", "mark", "(II)I"⟩
set_option maxRecDepth 100000 in
theorem my_Nj_mark : nj_MV ny_Nj_mark nb_Nj_mark 3 (some .int) 2 := ⟨nj_T0_in (List.mem_of_getElem? (i := 398) (by decide +kernel)) (by decide +kernel), nj_T0_in (List.mem_of_getElem? (i := 399) (by decide +kernel)) (by decide +kernel), nj_T0_in (List.mem_of_getElem? (i := 66) (by decide +kernel)) (by decide +kernel), nj_T0_in (List.mem_of_getElem? (i := 400) rfl) (by decide +kernel), by decide +kernel⟩
abbrev nb_Club_isOfKind : ByteArray := prog_2_method_6_code
abbrev ny_Club_isOfKind : MethodName := ⟨"NobodyJoins$Club", "isOfKind", "(II)Z"⟩
set_option maxRecDepth 100000 in
theorem my_Club_isOfKind : nj_MV ny_Club_isOfKind nb_Club_isOfKind 3 (some .boolean) 2 := ⟨nj_T0_in (List.mem_of_getElem? (i := 402) (by decide +kernel)) (by decide +kernel), nj_T0_in (List.mem_of_getElem? (i := 403) (by decide +kernel)) (by decide +kernel), nj_T0_in (List.mem_of_getElem? (i := 67) (by decide +kernel)) (by decide +kernel), nj_T0_in (List.mem_of_getElem? (i := 404) rfl) (by decide +kernel), by decide +kernel⟩
abbrev nb_Club_markOf : ByteArray := prog_2_method_12_code
abbrev ny_Club_markOf : MethodName := ⟨"NobodyJoins$Club", "markOf", "(II)I"⟩
set_option maxRecDepth 100000 in
theorem my_Club_markOf : nj_MV ny_Club_markOf nb_Club_markOf 3 (some .int) 2 := ⟨nj_T0_in (List.mem_of_getElem? (i := 406) (by decide +kernel)) (by decide +kernel), nj_T0_in (List.mem_of_getElem? (i := 407) (by decide +kernel)) (by decide +kernel), nj_T0_in (List.mem_of_getElem? (i := 67) (by decide +kernel)) (by decide +kernel), nj_T0_in (List.mem_of_getElem? (i := 408) rfl) (by decide +kernel), by decide +kernel⟩
abbrev nb_Integer_bitCount : ByteArray := prog_11_method_49_code
abbrev ny_Integer_bitCount : MethodName := ⟨"java/lang/Integer", "bitCount", "(I)I"⟩
set_option maxRecDepth 100000 in
theorem my_Integer_bitCount : nj_MS ny_Integer_bitCount nb_Integer_bitCount 1 (some .int) 1 := ⟨nj_T0_in (List.mem_of_getElem? (i := 410) (by decide +kernel)) (by decide +kernel), nj_T0_in (List.mem_of_getElem? (i := 74) (by decide +kernel)) (by decide +kernel), nj_T0_in (List.mem_of_getElem? (i := 411) rfl) (by decide +kernel), by decide +kernel⟩
abbrev nb_Nj_rule : ByteArray := prog_1_method_14_code
abbrev ny_Nj_rule : MethodName := ⟨"NobodyJoins", "rule", "(I)I"⟩
set_option maxRecDepth 100000 in
theorem my_Nj_rule : nj_MV ny_Nj_rule nb_Nj_rule 3 (some .int) 1 := ⟨nj_T0_in (List.mem_of_getElem? (i := 419) (by decide +kernel)) (by decide +kernel), nj_T0_in (List.mem_of_getElem? (i := 420) (by decide +kernel)) (by decide +kernel), nj_T0_in (List.mem_of_getElem? (i := 66) (by decide +kernel)) (by decide +kernel), nj_T0_in (List.mem_of_getElem? (i := 421) rfl) (by decide +kernel), by decide +kernel⟩
abbrev nb_Nj_oust : ByteArray := prog_1_method_15_code
abbrev ny_Nj_oust : MethodName := ⟨"NobodyJoins", "oust", "(I)I"⟩
set_option maxRecDepth 100000 in
theorem my_Nj_oust : nj_MV ny_Nj_oust nb_Nj_oust 2 (some .int) 1 := ⟨nj_T0_in (List.mem_of_getElem? (i := 423) (by decide +kernel)) (by decide +kernel), nj_T0_in (List.mem_of_getElem? (i := 424) (by decide +kernel)) (by decide +kernel), nj_T0_in (List.mem_of_getElem? (i := 66) (by decide +kernel)) (by decide +kernel), nj_T0_in (List.mem_of_getElem? (i := 425) rfl) (by decide +kernel), by decide +kernel⟩
abbrev nb_Club_putOutOf : ByteArray := prog_2_method_18_code
abbrev ny_Club_putOutOf : MethodName := ⟨"NobodyJoins$Club", "putOutOf", "(I)I"⟩
set_option maxRecDepth 100000 in
theorem my_Club_putOutOf : nj_MV ny_Club_putOutOf nb_Club_putOutOf 4 (some .int) 1 := ⟨nj_T0_in (List.mem_of_getElem? (i := 427) (by decide +kernel)) (by decide +kernel), nj_T0_in (List.mem_of_getElem? (i := 428) (by decide +kernel)) (by decide +kernel), nj_T0_in (List.mem_of_getElem? (i := 67) (by decide +kernel)) (by decide +kernel), nj_T0_in (List.mem_of_getElem? (i := 429) rfl) (by decide +kernel), by decide +kernel⟩
abbrev nb_Club_isPutOut : ByteArray := prog_2_method_15_code
abbrev ny_Club_isPutOut : MethodName := ⟨"NobodyJoins$Club", "isPutOut", "(IIII)Z"⟩
set_option maxRecDepth 100000 in
theorem my_Club_isPutOut : nj_MV ny_Club_isPutOut nb_Club_isPutOut 8 (some .boolean) 4 := ⟨nj_T0_in (List.mem_of_getElem? (i := 431) (by decide +kernel)) (by decide +kernel), nj_T0_in (List.mem_of_getElem? (i := 432) (by decide +kernel)) (by decide +kernel), nj_T0_in (List.mem_of_getElem? (i := 67) (by decide +kernel)) (by decide +kernel), nj_T0_in (List.mem_of_getElem? (i := 433) rfl) (by decide +kernel), by decide +kernel⟩
abbrev nb_Club_votesOfSet : ByteArray := prog_2_method_10_code
abbrev ny_Club_votesOfSet : MethodName := ⟨"NobodyJoins$Club", "votesOfSet", "(I)I"⟩
set_option maxRecDepth 100000 in
theorem my_Club_votesOfSet : nj_MV ny_Club_votesOfSet nb_Club_votesOfSet 4 (some .int) 1 := ⟨nj_T0_in (List.mem_of_getElem? (i := 435) (by decide +kernel)) (by decide +kernel), nj_T0_in (List.mem_of_getElem? (i := 436) (by decide +kernel)) (by decide +kernel), nj_T0_in (List.mem_of_getElem? (i := 67) (by decide +kernel)) (by decide +kernel), nj_T0_in (List.mem_of_getElem? (i := 437) rfl) (by decide +kernel), by decide +kernel⟩
abbrev nb_Club_isCarried : ByteArray := prog_2_method_16_code
abbrev ny_Club_isCarried : MethodName := ⟨"NobodyJoins$Club", "isCarried", "(IIII)Z"⟩
set_option maxRecDepth 100000 in
theorem my_Club_isCarried : nj_MV ny_Club_isCarried nb_Club_isCarried 5 (some .boolean) 4 := ⟨nj_T0_in (List.mem_of_getElem? (i := 440) (by decide +kernel)) (by decide +kernel), nj_T0_in (List.mem_of_getElem? (i := 7) (by decide +kernel)) (by decide +kernel), nj_T0_in (List.mem_of_getElem? (i := 67) (by decide +kernel)) (by decide +kernel), nj_T0_in (List.mem_of_getElem? (i := 441) rfl) (by decide +kernel), by decide +kernel⟩
abbrev nb_Club_doSistersAgree : ByteArray := prog_2_method_17_code
abbrev ny_Club_doSistersAgree : MethodName := ⟨"NobodyJoins$Club", "doSistersAgree", "(II)Z"⟩
set_option maxRecDepth 100000 in
theorem my_Club_doSistersAgree : nj_MV ny_Club_doSistersAgree nb_Club_doSistersAgree 4 (some .boolean) 2 := ⟨nj_T0_in (List.mem_of_getElem? (i := 444) (by decide +kernel)) (by decide +kernel), nj_T0_in (List.mem_of_getElem? (i := 8) (by decide +kernel)) (by decide +kernel), nj_T0_in (List.mem_of_getElem? (i := 67) (by decide +kernel)) (by decide +kernel), nj_T0_in (List.mem_of_getElem? (i := 445) rfl) (by decide +kernel), by decide +kernel⟩
abbrev nb_Club_allOfKind : ByteArray := prog_2_method_7_code
abbrev ny_Club_allOfKind : MethodName := ⟨"NobodyJoins$Club", "allOfKind", "(I)I"⟩
set_option maxRecDepth 100000 in
theorem my_Club_allOfKind : nj_MV ny_Club_allOfKind nb_Club_allOfKind 4 (some .int) 1 := ⟨nj_T0_in (List.mem_of_getElem? (i := 447) (by decide +kernel)) (by decide +kernel), nj_T0_in (List.mem_of_getElem? (i := 448) (by decide +kernel)) (by decide +kernel), nj_T0_in (List.mem_of_getElem? (i := 67) (by decide +kernel)) (by decide +kernel), nj_T0_in (List.mem_of_getElem? (i := 449) rfl) (by decide +kernel), by decide +kernel⟩
abbrev nb_Club_putOut : ByteArray := prog_2_method_21_code
abbrev ny_Club_putOut : MethodName := ⟨"NobodyJoins$Club", "putOut", "(I)V"⟩
set_option maxRecDepth 100000 in
theorem my_Club_putOut : nj_MV ny_Club_putOut nb_Club_putOut 2 none 1 := ⟨nj_T0_in (List.mem_of_getElem? (i := 452) (by decide +kernel)) (by decide +kernel), nj_T0_in (List.mem_of_getElem? (i := 453) (by decide +kernel)) (by decide +kernel), nj_T0_in (List.mem_of_getElem? (i := 67) (by decide +kernel)) (by decide +kernel), nj_T0_in (List.mem_of_getElem? (i := 454) rfl) (by decide +kernel), by decide +kernel⟩
abbrev nb_Club_note : ByteArray := prog_2_method_27_code
abbrev ny_Club_note : MethodName := ⟨"NobodyJoins$Club", "note", "(II)V"⟩
set_option maxRecDepth 100000 in
theorem my_Club_note : nj_MV ny_Club_note nb_Club_note 3 none 2 := ⟨nj_T0_in (List.mem_of_getElem? (i := 457) (by decide +kernel)) (by decide +kernel), nj_T0_in (List.mem_of_getElem? (i := 9) (by decide +kernel)) (by decide +kernel), nj_T0_in (List.mem_of_getElem? (i := 67) (by decide +kernel)) (by decide +kernel), nj_T0_in (List.mem_of_getElem? (i := 458) rfl) (by decide +kernel), by decide +kernel⟩
abbrev nb_Nj_join : ByteArray := prog_1_method_16_code
abbrev ny_Nj_join : MethodName := ⟨"NobodyJoins", "join", "(I)I"⟩
set_option maxRecDepth 100000 in
theorem my_Nj_join : nj_MV ny_Nj_join nb_Nj_join 2 (some .int) 1 := ⟨nj_T0_in (List.mem_of_getElem? (i := 461) (by decide +kernel)) (by decide +kernel), nj_T0_in (List.mem_of_getElem? (i := 462) (by decide +kernel)) (by decide +kernel), nj_T0_in (List.mem_of_getElem? (i := 66) (by decide +kernel)) (by decide +kernel), nj_T0_in (List.mem_of_getElem? (i := 463) rfl) (by decide +kernel), by decide +kernel⟩
abbrev nb_Club_mayJoin : ByteArray := prog_2_method_20_code
abbrev ny_Club_mayJoin : MethodName := ⟨"NobodyJoins$Club", "mayJoin", "(I)Z"⟩
set_option maxRecDepth 100000 in
theorem my_Club_mayJoin : nj_MV ny_Club_mayJoin nb_Club_mayJoin 2 (some .boolean) 1 := ⟨nj_T0_in (List.mem_of_getElem? (i := 465) (by decide +kernel)) (by decide +kernel), nj_T0_in (List.mem_of_getElem? (i := 466) (by decide +kernel)) (by decide +kernel), nj_T0_in (List.mem_of_getElem? (i := 67) (by decide +kernel)) (by decide +kernel), nj_T0_in (List.mem_of_getElem? (i := 467) rfl) (by decide +kernel), by decide +kernel⟩
abbrev nb_Club_isIn : ByteArray := prog_2_method_5_code
abbrev ny_Club_isIn : MethodName := ⟨"NobodyJoins$Club", "isIn", "(I)Z"⟩
set_option maxRecDepth 100000 in
theorem my_Club_isIn : nj_MV ny_Club_isIn nb_Club_isIn 2 (some .boolean) 1 := ⟨nj_T0_in (List.mem_of_getElem? (i := 469) (by decide +kernel)) (by decide +kernel), nj_T0_in (List.mem_of_getElem? (i := 470) (by decide +kernel)) (by decide +kernel), nj_T0_in (List.mem_of_getElem? (i := 67) (by decide +kernel)) (by decide +kernel), nj_T0_in (List.mem_of_getElem? (i := 471) rfl) (by decide +kernel), by decide +kernel⟩
abbrev nb_Club_letIn : ByteArray := prog_2_method_22_code
abbrev ny_Club_letIn : MethodName := ⟨"NobodyJoins$Club", "letIn", "(I)V"⟩
set_option maxRecDepth 100000 in
theorem my_Club_letIn : nj_MV ny_Club_letIn nb_Club_letIn 2 none 1 := ⟨nj_T0_in (List.mem_of_getElem? (i := 473) (by decide +kernel)) (by decide +kernel), nj_T0_in (List.mem_of_getElem? (i := 474) (by decide +kernel)) (by decide +kernel), nj_T0_in (List.mem_of_getElem? (i := 67) (by decide +kernel)) (by decide +kernel), nj_T0_in (List.mem_of_getElem? (i := 475) rfl) (by decide +kernel), by decide +kernel⟩
abbrev nb_Nj_fee : ByteArray := prog_1_method_17_code
abbrev ny_Nj_fee : MethodName := ⟨"NobodyJoins", "fee", "()I"⟩
set_option maxRecDepth 100000 in
theorem my_Nj_fee : nj_MV ny_Nj_fee nb_Nj_fee 1 (some .int) 0 := ⟨nj_T0_in (List.mem_of_getElem? (i := 477) (by decide +kernel)) (by decide +kernel), nj_T0_in (List.mem_of_getElem? (i := 478) (by decide +kernel)) (by decide +kernel), nj_T0_in (List.mem_of_getElem? (i := 66) (by decide +kernel)) (by decide +kernel), nj_T0_in (List.mem_of_getElem? (i := 479) rfl) (by decide +kernel), by decide +kernel⟩
abbrev nb_Club_payFee : ByteArray := prog_2_method_23_code
abbrev ny_Club_payFee : MethodName := ⟨"NobodyJoins$Club", "payFee", "()V"⟩
set_option maxRecDepth 100000 in
theorem my_Club_payFee : nj_MV ny_Club_payFee nb_Club_payFee 3 none 0 := ⟨nj_T0_in (List.mem_of_getElem? (i := 481) (by decide +kernel)) (by decide +kernel), nj_T0_in (List.mem_of_getElem? (i := 482) (by decide +kernel)) (by decide +kernel), nj_T0_in (List.mem_of_getElem? (i := 67) (by decide +kernel)) (by decide +kernel), nj_T0_in (List.mem_of_getElem? (i := 483) rfl) (by decide +kernel), by decide +kernel⟩
abbrev nb_Nj_grudge : ByteArray := prog_1_method_18_code
abbrev ny_Nj_grudge : MethodName := ⟨"NobodyJoins", "grudge", "(II)I"⟩
set_option maxRecDepth 100000 in
theorem my_Nj_grudge : nj_MV ny_Nj_grudge nb_Nj_grudge 3 (some .int) 2 := ⟨nj_T0_in (List.mem_of_getElem? (i := 485) (by decide +kernel)) (by decide +kernel), nj_T0_in (List.mem_of_getElem? (i := 486) (by decide +kernel)) (by decide +kernel), nj_T0_in (List.mem_of_getElem? (i := 66) (by decide +kernel)) (by decide +kernel), nj_T0_in (List.mem_of_getElem? (i := 487) rfl) (by decide +kernel), by decide +kernel⟩
abbrev nb_Club_bearGrudge : ByteArray := prog_2_method_24_code
abbrev ny_Club_bearGrudge : MethodName := ⟨"NobodyJoins$Club", "bearGrudge", "(II)V"⟩
set_option maxRecDepth 100000 in
theorem my_Club_bearGrudge : nj_MV ny_Club_bearGrudge nb_Club_bearGrudge 3 none 2 := ⟨nj_T0_in (List.mem_of_getElem? (i := 489) (by decide +kernel)) (by decide +kernel), nj_T0_in (List.mem_of_getElem? (i := 490) (by decide +kernel)) (by decide +kernel), nj_T0_in (List.mem_of_getElem? (i := 67) (by decide +kernel)) (by decide +kernel), nj_T0_in (List.mem_of_getElem? (i := 491) rfl) (by decide +kernel), by decide +kernel⟩
abbrev nb_Nj_undo : ByteArray := prog_1_method_19_code
abbrev ny_Nj_undo : MethodName := ⟨"NobodyJoins", "undo", "(I)I"⟩
set_option maxRecDepth 100000 in
theorem my_Nj_undo : nj_MV ny_Nj_undo nb_Nj_undo 4 (some .int) 1 := ⟨nj_T0_in (List.mem_of_getElem? (i := 494) (by decide +kernel)) (by decide +kernel), nj_T0_in (List.mem_of_getElem? (i := 495) (by decide +kernel)) (by decide +kernel), nj_T0_in (List.mem_of_getElem? (i := 66) (by decide +kernel)) (by decide +kernel), nj_T0_in (List.mem_of_getElem? (i := 496) rfl) (by decide +kernel), by decide +kernel⟩
abbrev nb_Club_undoLast : ByteArray := prog_2_method_28_code
abbrev ny_Club_undoLast : MethodName := ⟨"NobodyJoins$Club", "undoLast", "()V"⟩
set_option maxRecDepth 100000 in
theorem my_Club_undoLast : nj_MV ny_Club_undoLast nb_Club_undoLast 2 none 0 := ⟨nj_T0_in (List.mem_of_getElem? (i := 498) (by decide +kernel)) (by decide +kernel), nj_T0_in (List.mem_of_getElem? (i := 499) (by decide +kernel)) (by decide +kernel), nj_T0_in (List.mem_of_getElem? (i := 67) (by decide +kernel)) (by decide +kernel), nj_T0_in (List.mem_of_getElem? (i := 500) rfl) (by decide +kernel), by decide +kernel⟩
abbrev nb_Club_giveBack : ByteArray := prog_2_method_29_code
abbrev ny_Club_giveBack : MethodName := ⟨"NobodyJoins$Club", "giveBack", "(I)V"⟩
set_option maxRecDepth 100000 in
theorem my_Club_giveBack : nj_MV ny_Club_giveBack nb_Club_giveBack 3 none 1 := ⟨nj_T0_in (List.mem_of_getElem? (i := 503) (by decide +kernel)) (by decide +kernel), nj_T0_in (List.mem_of_getElem? (i := 10) (by decide +kernel)) (by decide +kernel), nj_T0_in (List.mem_of_getElem? (i := 67) (by decide +kernel)) (by decide +kernel), nj_T0_in (List.mem_of_getElem? (i := 504) rfl) (by decide +kernel), by decide +kernel⟩
abbrev nb_Nj_keep : ByteArray := prog_1_method_20_code
abbrev ny_Nj_keep : MethodName := ⟨"NobodyJoins", "keep", "(I)I"⟩
set_option maxRecDepth 100000 in
theorem my_Nj_keep : nj_MV ny_Nj_keep nb_Nj_keep 2 (some .int) 1 := ⟨nj_T0_in (List.mem_of_getElem? (i := 506) (by decide +kernel)) (by decide +kernel), nj_T0_in (List.mem_of_getElem? (i := 507) (by decide +kernel)) (by decide +kernel), nj_T0_in (List.mem_of_getElem? (i := 66) (by decide +kernel)) (by decide +kernel), nj_T0_in (List.mem_of_getElem? (i := 508) rfl) (by decide +kernel), by decide +kernel⟩
abbrev nb_Nj_isKeptPlace : ByteArray := prog_1_method_49_code
abbrev ny_Nj_isKeptPlace : MethodName := ⟨"NobodyJoins", "isKeptPlace", "(I)Z"⟩
set_option maxRecDepth 100000 in
theorem my_Nj_isKeptPlace : nj_MS ny_Nj_isKeptPlace nb_Nj_isKeptPlace 1 (some .boolean) 1 := ⟨nj_T0_in (List.mem_of_getElem? (i := 510) (by decide +kernel)) (by decide +kernel), nj_T0_in (List.mem_of_getElem? (i := 66) (by decide +kernel)) (by decide +kernel), nj_T0_in (List.mem_of_getElem? (i := 511) rfl) (by decide +kernel), by decide +kernel⟩
abbrev nb_Nj_on : ByteArray := prog_1_method_21_code
abbrev ny_Nj_on : MethodName := ⟨"NobodyJoins", "on", "(I)I"⟩
set_option maxRecDepth 100000 in
theorem my_Nj_on : nj_MV ny_Nj_on nb_Nj_on 2 (some .int) 1 := ⟨nj_T0_in (List.mem_of_getElem? (i := 513) (by decide +kernel)) (by decide +kernel), nj_T0_in (List.mem_of_getElem? (i := 514) (by decide +kernel)) (by decide +kernel), nj_T0_in (List.mem_of_getElem? (i := 66) (by decide +kernel)) (by decide +kernel), nj_T0_in (List.mem_of_getElem? (i := 515) rfl) (by decide +kernel), by decide +kernel⟩
abbrev nb_Nj_yes : ByteArray := prog_1_method_22_code
abbrev ny_Nj_yes : MethodName := ⟨"NobodyJoins", "yes", "(I)I"⟩
set_option maxRecDepth 100000 in
theorem my_Nj_yes : nj_MV ny_Nj_yes nb_Nj_yes 4 (some .int) 1 := ⟨nj_T0_in (List.mem_of_getElem? (i := 517) (by decide +kernel)) (by decide +kernel), nj_T0_in (List.mem_of_getElem? (i := 518) (by decide +kernel)) (by decide +kernel), nj_T0_in (List.mem_of_getElem? (i := 66) (by decide +kernel)) (by decide +kernel), nj_T0_in (List.mem_of_getElem? (i := 519) rfl) (by decide +kernel), by decide +kernel⟩
abbrev nb_Nj_refusalOfOneIn : ByteArray := prog_1_method_54_code
abbrev ny_Nj_refusalOfOneIn : MethodName := ⟨"NobodyJoins", "refusalOfOneIn", "(I)I"⟩
set_option maxRecDepth 100000 in
theorem my_Nj_refusalOfOneIn : nj_MV ny_Nj_refusalOfOneIn nb_Nj_refusalOfOneIn 2 (some .int) 1 := ⟨nj_T0_in (List.mem_of_getElem? (i := 522) (by decide +kernel)) (by decide +kernel), nj_T0_in (List.mem_of_getElem? (i := 11) (by decide +kernel)) (by decide +kernel), nj_T0_in (List.mem_of_getElem? (i := 66) (by decide +kernel)) (by decide +kernel), nj_T0_in (List.mem_of_getElem? (i := 523) rfl) (by decide +kernel), by decide +kernel⟩
abbrev nb_Club_votesAgainst : ByteArray := prog_2_method_14_code
abbrev ny_Club_votesAgainst : MethodName := ⟨"NobodyJoins$Club", "votesAgainst", "(III)I"⟩
set_option maxRecDepth 100000 in
theorem my_Club_votesAgainst : nj_MV ny_Club_votesAgainst nb_Club_votesAgainst 4 (some .int) 3 := ⟨nj_T0_in (List.mem_of_getElem? (i := 526) (by decide +kernel)) (by decide +kernel), nj_T0_in (List.mem_of_getElem? (i := 527) (by decide +kernel)) (by decide +kernel), nj_T0_in (List.mem_of_getElem? (i := 67) (by decide +kernel)) (by decide +kernel), nj_T0_in (List.mem_of_getElem? (i := 528) rfl) (by decide +kernel), by decide +kernel⟩
abbrev nb_Nj_can : ByteArray := prog_1_method_23_code
abbrev ny_Nj_can : MethodName := ⟨"NobodyJoins", "can", "()I"⟩
set_option maxRecDepth 100000 in
theorem my_Nj_can : nj_MV ny_Nj_can nb_Nj_can 3 (some .int) 0 := ⟨nj_T0_in (List.mem_of_getElem? (i := 531) (by decide +kernel)) (by decide +kernel), nj_T0_in (List.mem_of_getElem? (i := 532) (by decide +kernel)) (by decide +kernel), nj_T0_in (List.mem_of_getElem? (i := 66) (by decide +kernel)) (by decide +kernel), nj_T0_in (List.mem_of_getElem? (i := 533) rfl) (by decide +kernel), by decide +kernel⟩
abbrev nb_Nj_swing : ByteArray := prog_1_method_24_code
abbrev ny_Nj_swing : MethodName := ⟨"NobodyJoins", "swing", "(I)I"⟩
set_option maxRecDepth 100000 in
theorem my_Nj_swing : nj_MV ny_Nj_swing nb_Nj_swing 7 (some .int) 1 := ⟨nj_T0_in (List.mem_of_getElem? (i := 535) (by decide +kernel)) (by decide +kernel), nj_T0_in (List.mem_of_getElem? (i := 536) (by decide +kernel)) (by decide +kernel), nj_T0_in (List.mem_of_getElem? (i := 66) (by decide +kernel)) (by decide +kernel), nj_T0_in (List.mem_of_getElem? (i := 537) rfl) (by decide +kernel), by decide +kernel⟩
abbrev nb_Nj_rules : ByteArray := prog_1_method_25_code
abbrev ny_Nj_rules : MethodName := ⟨"NobodyJoins", "rules", "(I)I"⟩
set_option maxRecDepth 100000 in
theorem my_Nj_rules : nj_MV ny_Nj_rules nb_Nj_rules 5 (some .int) 1 := ⟨nj_T0_in (List.mem_of_getElem? (i := 540) (by decide +kernel)) (by decide +kernel), nj_T0_in (List.mem_of_getElem? (i := 541) (by decide +kernel)) (by decide +kernel), nj_T0_in (List.mem_of_getElem? (i := 66) (by decide +kernel)) (by decide +kernel), nj_T0_in (List.mem_of_getElem? (i := 542) rfl) (by decide +kernel), by decide +kernel⟩
abbrev nb_Nj_longest : ByteArray := prog_1_method_26_code
abbrev ny_Nj_longest : MethodName := ⟨"NobodyJoins", "longest", "(I)I"⟩
set_option maxRecDepth 100000 in
theorem my_Nj_longest : nj_MV ny_Nj_longest nb_Nj_longest 2 (some .int) 1 := ⟨nj_T0_in (List.mem_of_getElem? (i := 544) (by decide +kernel)) (by decide +kernel), nj_T0_in (List.mem_of_getElem? (i := 545) (by decide +kernel)) (by decide +kernel), nj_T0_in (List.mem_of_getElem? (i := 66) (by decide +kernel)) (by decide +kernel), nj_T0_in (List.mem_of_getElem? (i := 546) rfl) (by decide +kernel), by decide +kernel⟩
abbrev nb_Orders_layLongest : ByteArray := prog_3_method_2_code
abbrev ny_Orders_layLongest : MethodName := ⟨"NobodyJoins$Orders", "layLongest", "(LNobodyJoins$Club;LNobodyJoins$Row;)I"⟩
set_option maxRecDepth 100000 in
theorem my_Orders_layLongest : nj_MV ny_Orders_layLongest nb_Orders_layLongest 7 (some .int) 2 := ⟨nj_T0_in (List.mem_of_getElem? (i := 548) (by decide +kernel)) (by decide +kernel), nj_T0_in (List.mem_of_getElem? (i := 549) (by decide +kernel)) (by decide +kernel), nj_T0_in (List.mem_of_getElem? (i := 69) (by decide +kernel)) (by decide +kernel), nj_T0_in (List.mem_of_getElem? (i := 550) rfl) (by decide +kernel), by decide +kernel⟩
abbrev nb_Orders_measureLengths : ByteArray := prog_3_method_3_code
abbrev ny_Orders_measureLengths : MethodName := ⟨"NobodyJoins$Orders", "measureLengths", "(LNobodyJoins$Club;)V"⟩
set_option maxRecDepth 100000 in
theorem my_Orders_measureLengths : nj_MV ny_Orders_measureLengths nb_Orders_measureLengths 6 none 1 := ⟨nj_T0_in (List.mem_of_getElem? (i := 553) (by decide +kernel)) (by decide +kernel), nj_T0_in (List.mem_of_getElem? (i := 12) (by decide +kernel)) (by decide +kernel), nj_T0_in (List.mem_of_getElem? (i := 69) (by decide +kernel)) (by decide +kernel), nj_T0_in (List.mem_of_getElem? (i := 554) rfl) (by decide +kernel), by decide +kernel⟩
abbrev nb_Orders_firstOfLongest : ByteArray := prog_3_method_4_code
abbrev ny_Orders_firstOfLongest : MethodName := ⟨"NobodyJoins$Orders", "firstOfLongest", "(LNobodyJoins$Club;I)I"⟩
set_option maxRecDepth 100000 in
theorem my_Orders_firstOfLongest : nj_MV ny_Orders_firstOfLongest nb_Orders_firstOfLongest 5 (some .int) 2 := ⟨nj_T0_in (List.mem_of_getElem? (i := 560) (by decide +kernel)) (by decide +kernel), nj_T0_in (List.mem_of_getElem? (i := 13) (by decide +kernel)) (by decide +kernel), nj_T0_in (List.mem_of_getElem? (i := 69) (by decide +kernel)) (by decide +kernel), nj_T0_in (List.mem_of_getElem? (i := 561) rfl) (by decide +kernel), by decide +kernel⟩
abbrev nb_Nj_ways : ByteArray := prog_1_method_27_code
abbrev ny_Nj_ways : MethodName := ⟨"NobodyJoins", "ways", "(I)I"⟩
set_option maxRecDepth 100000 in
theorem my_Nj_ways : nj_MV ny_Nj_ways nb_Nj_ways 2 (some .int) 1 := ⟨nj_T0_in (List.mem_of_getElem? (i := 563) (by decide +kernel)) (by decide +kernel), nj_T0_in (List.mem_of_getElem? (i := 564) (by decide +kernel)) (by decide +kernel), nj_T0_in (List.mem_of_getElem? (i := 66) (by decide +kernel)) (by decide +kernel), nj_T0_in (List.mem_of_getElem? (i := 565) rfl) (by decide +kernel), by decide +kernel⟩
abbrev nb_Orders_countPaths : ByteArray := prog_3_method_5_code
abbrev ny_Orders_countPaths : MethodName := ⟨"NobodyJoins$Orders", "countPaths", "(LNobodyJoins$Club;)V"⟩
set_option maxRecDepth 100000 in
theorem my_Orders_countPaths : nj_MV ny_Orders_countPaths nb_Orders_countPaths 5 none 1 := ⟨nj_T0_in (List.mem_of_getElem? (i := 567) (by decide +kernel)) (by decide +kernel), nj_T0_in (List.mem_of_getElem? (i := 568) (by decide +kernel)) (by decide +kernel), nj_T0_in (List.mem_of_getElem? (i := 69) (by decide +kernel)) (by decide +kernel), nj_T0_in (List.mem_of_getElem? (i := 569) rfl) (by decide +kernel), by decide +kernel⟩
abbrev nb_Orders_endsWith : ByteArray := prog_3_method_6_code
abbrev ny_Orders_endsWith : MethodName := ⟨"NobodyJoins$Orders", "endsWith", "(LNobodyJoins$Club;I)I"⟩
set_option maxRecDepth 100000 in
theorem my_Orders_endsWith : nj_MV ny_Orders_endsWith nb_Orders_endsWith 5 (some .int) 2 := ⟨nj_T0_in (List.mem_of_getElem? (i := 571) (by decide +kernel)) (by decide +kernel), nj_T0_in (List.mem_of_getElem? (i := 572) (by decide +kernel)) (by decide +kernel), nj_T0_in (List.mem_of_getElem? (i := 69) (by decide +kernel)) (by decide +kernel), nj_T0_in (List.mem_of_getElem? (i := 573) rfl) (by decide +kernel), by decide +kernel⟩
abbrev nb_Club_standsStill : ByteArray := prog_2_method_19_code
abbrev ny_Club_standsStill : MethodName := ⟨"NobodyJoins$Club", "standsStill", "(I)Z"⟩
set_option maxRecDepth 100000 in
theorem my_Club_standsStill : nj_MV ny_Club_standsStill nb_Club_standsStill 2 (some .boolean) 1 := ⟨nj_T0_in (List.mem_of_getElem? (i := 575) (by decide +kernel)) (by decide +kernel), nj_T0_in (List.mem_of_getElem? (i := 576) (by decide +kernel)) (by decide +kernel), nj_T0_in (List.mem_of_getElem? (i := 67) (by decide +kernel)) (by decide +kernel), nj_T0_in (List.mem_of_getElem? (i := 577) rfl) (by decide +kernel), by decide +kernel⟩
abbrev nb_Nj_tellNumber : ByteArray := prog_1_method_56_code
abbrev ny_Nj_tellNumber : MethodName := ⟨"NobodyJoins", "tellNumber", "(J)V"⟩
set_option maxRecDepth 100000 in
theorem my_Nj_tellNumber : nj_MV ny_Nj_tellNumber nb_Nj_tellNumber 3 none 1 := ⟨nj_T0_in (List.mem_of_getElem? (i := 581) (by decide +kernel)) (by decide +kernel), nj_T0_in (List.mem_of_getElem? (i := 14) (by decide +kernel)) (by decide +kernel), nj_T0_in (List.mem_of_getElem? (i := 66) (by decide +kernel)) (by decide +kernel), nj_T0_in (List.mem_of_getElem? (i := 582) rfl) (by decide +kernel), by decide +kernel⟩
abbrev nb_Nj_alone : ByteArray := prog_1_method_28_code
abbrev ny_Nj_alone : MethodName := ⟨"NobodyJoins", "alone", "()I"⟩
set_option maxRecDepth 100000 in
theorem my_Nj_alone : nj_MV ny_Nj_alone nb_Nj_alone 1 (some .int) 0 := ⟨nj_T0_in (List.mem_of_getElem? (i := 584) (by decide +kernel)) (by decide +kernel), nj_T0_in (List.mem_of_getElem? (i := 585) (by decide +kernel)) (by decide +kernel), nj_T0_in (List.mem_of_getElem? (i := 66) (by decide +kernel)) (by decide +kernel), nj_T0_in (List.mem_of_getElem? (i := 586) rfl) (by decide +kernel), by decide +kernel⟩
abbrev nb_Orders_lastOnes : ByteArray := prog_3_method_7_code
abbrev ny_Orders_lastOnes : MethodName := ⟨"NobodyJoins$Orders", "lastOnes", "(LNobodyJoins$Club;)I"⟩
set_option maxRecDepth 100000 in
theorem my_Orders_lastOnes : nj_MV ny_Orders_lastOnes nb_Orders_lastOnes 4 (some .int) 1 := ⟨nj_T0_in (List.mem_of_getElem? (i := 588) (by decide +kernel)) (by decide +kernel), nj_T0_in (List.mem_of_getElem? (i := 589) (by decide +kernel)) (by decide +kernel), nj_T0_in (List.mem_of_getElem? (i := 69) (by decide +kernel)) (by decide +kernel), nj_T0_in (List.mem_of_getElem? (i := 590) rfl) (by decide +kernel), by decide +kernel⟩
abbrev nb_Nj_stands : ByteArray := prog_1_method_29_code
abbrev ny_Nj_stands : MethodName := ⟨"NobodyJoins", "stands", "()I"⟩
set_option maxRecDepth 100000 in
theorem my_Nj_stands : nj_MV ny_Nj_stands nb_Nj_stands 4 (some .int) 0 := ⟨nj_T0_in (List.mem_of_getElem? (i := 593) (by decide +kernel)) (by decide +kernel), nj_T0_in (List.mem_of_getElem? (i := 594) (by decide +kernel)) (by decide +kernel), nj_T0_in (List.mem_of_getElem? (i := 66) (by decide +kernel)) (by decide +kernel), nj_T0_in (List.mem_of_getElem? (i := 595) rfl) (by decide +kernel), by decide +kernel⟩
abbrev nb_Nj_run : ByteArray := prog_1_method_30_code
abbrev ny_Nj_run : MethodName := ⟨"NobodyJoins", "run", "(I)I"⟩
set_option maxRecDepth 100000 in
theorem my_Nj_run : nj_MV ny_Nj_run nb_Nj_run 5 (some .int) 1 := ⟨nj_T0_in (List.mem_of_getElem? (i := 598) (by decide +kernel)) (by decide +kernel), nj_T0_in (List.mem_of_getElem? (i := 599) (by decide +kernel)) (by decide +kernel), nj_T0_in (List.mem_of_getElem? (i := 66) (by decide +kernel)) (by decide +kernel), nj_T0_in (List.mem_of_getElem? (i := 600) rfl) (by decide +kernel), by decide +kernel⟩
abbrev nb_Nj_refusalOfClubAndRow : ByteArray := prog_1_method_53_code
abbrev ny_Nj_refusalOfClubAndRow : MethodName := ⟨"NobodyJoins", "refusalOfClubAndRow", "(I)I"⟩
set_option maxRecDepth 100000 in
theorem my_Nj_refusalOfClubAndRow : nj_MV ny_Nj_refusalOfClubAndRow nb_Nj_refusalOfClubAndRow 2 (some .int) 1 := ⟨nj_T0_in (List.mem_of_getElem? (i := 603) (by decide +kernel)) (by decide +kernel), nj_T0_in (List.mem_of_getElem? (i := 15) (by decide +kernel)) (by decide +kernel), nj_T0_in (List.mem_of_getElem? (i := 66) (by decide +kernel)) (by decide +kernel), nj_T0_in (List.mem_of_getElem? (i := 604) rfl) (by decide +kernel), by decide +kernel⟩
abbrev nb_Nj_namesChildren : ByteArray := prog_1_method_51_code
abbrev ny_Nj_namesChildren : MethodName := ⟨"NobodyJoins", "namesChildren", "(LNobodyJoins$Row;I)Z"⟩
set_option maxRecDepth 100000 in
theorem my_Nj_namesChildren : nj_MV ny_Nj_namesChildren nb_Nj_namesChildren 4 (some .boolean) 2 := ⟨nj_T0_in (List.mem_of_getElem? (i := 607) (by decide +kernel)) (by decide +kernel), nj_T0_in (List.mem_of_getElem? (i := 16) (by decide +kernel)) (by decide +kernel), nj_T0_in (List.mem_of_getElem? (i := 66) (by decide +kernel)) (by decide +kernel), nj_T0_in (List.mem_of_getElem? (i := 608) rfl) (by decide +kernel), by decide +kernel⟩
abbrev nb_Orders_leftBy : ByteArray := prog_3_method_8_code
abbrev ny_Orders_leftBy : MethodName := ⟨"NobodyJoins$Orders", "leftBy", "(LNobodyJoins$Club;LNobodyJoins$Row;)I"⟩
set_option maxRecDepth 100000 in
theorem my_Orders_leftBy : nj_MS ny_Orders_leftBy nb_Orders_leftBy 5 (some .int) 2 := ⟨nj_T0_in (List.mem_of_getElem? (i := 610) (by decide +kernel)) (by decide +kernel), nj_T0_in (List.mem_of_getElem? (i := 69) (by decide +kernel)) (by decide +kernel), nj_T0_in (List.mem_of_getElem? (i := 611) rfl) (by decide +kernel), by decide +kernel⟩
abbrev nb_Nj_splits : ByteArray := prog_1_method_31_code
abbrev ny_Nj_splits : MethodName := ⟨"NobodyJoins", "splits", "()I"⟩
set_option maxRecDepth 100000 in
theorem my_Nj_splits : nj_MV ny_Nj_splits nb_Nj_splits 6 (some .int) 0 := ⟨nj_T0_in (List.mem_of_getElem? (i := 613) (by decide +kernel)) (by decide +kernel), nj_T0_in (List.mem_of_getElem? (i := 614) (by decide +kernel)) (by decide +kernel), nj_T0_in (List.mem_of_getElem? (i := 66) (by decide +kernel)) (by decide +kernel), nj_T0_in (List.mem_of_getElem? (i := 615) rfl) (by decide +kernel), by decide +kernel⟩
abbrev nb_Nj_peace : ByteArray := prog_1_method_32_code
abbrev ny_Nj_peace : MethodName := ⟨"NobodyJoins", "peace", "()I"⟩
set_option maxRecDepth 100000 in
theorem my_Nj_peace : nj_MV ny_Nj_peace nb_Nj_peace 3 (some .int) 0 := ⟨nj_T0_in (List.mem_of_getElem? (i := 617) (by decide +kernel)) (by decide +kernel), nj_T0_in (List.mem_of_getElem? (i := 618) (by decide +kernel)) (by decide +kernel), nj_T0_in (List.mem_of_getElem? (i := 66) (by decide +kernel)) (by decide +kernel), nj_T0_in (List.mem_of_getElem? (i := 619) rfl) (by decide +kernel), by decide +kernel⟩
abbrev nb_Peace_firstGrudge : ByteArray := prog_4_method_2_code
abbrev ny_Peace_firstGrudge : MethodName := ⟨"NobodyJoins$Peace", "firstGrudge", "(LNobodyJoins$Club;I)I"⟩
set_option maxRecDepth 100000 in
theorem my_Peace_firstGrudge : nj_MS ny_Peace_firstGrudge nb_Peace_firstGrudge 4 (some .int) 2 := ⟨nj_T0_in (List.mem_of_getElem? (i := 621) (by decide +kernel)) (by decide +kernel), nj_T0_in (List.mem_of_getElem? (i := 76) (by decide +kernel)) (by decide +kernel), nj_T0_in (List.mem_of_getElem? (i := 622) rfl) (by decide +kernel), by decide +kernel⟩
abbrev nb_Peace_isPairIn : ByteArray := prog_4_method_4_code
abbrev ny_Peace_isPairIn : MethodName := ⟨"NobodyJoins$Peace", "isPairIn", "(LNobodyJoins$Club;I)Z"⟩
set_option maxRecDepth 100000 in
theorem my_Peace_isPairIn : nj_MS ny_Peace_isPairIn nb_Peace_isPairIn 4 (some .boolean) 2 := ⟨nj_T0_in (List.mem_of_getElem? (i := 626) (by decide +kernel)) (by decide +kernel), nj_T0_in (List.mem_of_getElem? (i := 76) (by decide +kernel)) (by decide +kernel), nj_T0_in (List.mem_of_getElem? (i := 627) rfl) (by decide +kernel), by decide +kernel⟩
abbrev nb_Peace_toggle : ByteArray := prog_4_method_5_code
abbrev ny_Peace_toggle : MethodName := ⟨"NobodyJoins$Peace", "toggle", "(LNobodyJoins$Club;I)V"⟩
set_option maxRecDepth 100000 in
theorem my_Peace_toggle : nj_MS ny_Peace_toggle nb_Peace_toggle 2 none 2 := ⟨nj_T0_in (List.mem_of_getElem? (i := 630) (by decide +kernel)) (by decide +kernel), nj_T0_in (List.mem_of_getElem? (i := 76) (by decide +kernel)) (by decide +kernel), nj_T0_in (List.mem_of_getElem? (i := 631) rfl) (by decide +kernel), by decide +kernel⟩
abbrev nb_Peace_firstTwoGrudges : ByteArray := prog_4_method_3_code
abbrev ny_Peace_firstTwoGrudges : MethodName := ⟨"NobodyJoins$Peace", "firstTwoGrudges", "(LNobodyJoins$Club;)I"⟩
set_option maxRecDepth 100000 in
theorem my_Peace_firstTwoGrudges : nj_MS ny_Peace_firstTwoGrudges nb_Peace_firstTwoGrudges 3 (some .int) 1 := ⟨nj_T0_in (List.mem_of_getElem? (i := 634) (by decide +kernel)) (by decide +kernel), nj_T0_in (List.mem_of_getElem? (i := 76) (by decide +kernel)) (by decide +kernel), nj_T0_in (List.mem_of_getElem? (i := 635) rfl) (by decide +kernel), by decide +kernel⟩
abbrev nb_Nj_power : ByteArray := prog_1_method_33_code
abbrev ny_Nj_power : MethodName := ⟨"NobodyJoins", "power", "(I)I"⟩
set_option maxRecDepth 100000 in
theorem my_Nj_power : nj_MV ny_Nj_power nb_Nj_power 3 (some .int) 1 := ⟨nj_T0_in (List.mem_of_getElem? (i := 638) (by decide +kernel)) (by decide +kernel), nj_T0_in (List.mem_of_getElem? (i := 639) (by decide +kernel)) (by decide +kernel), nj_T0_in (List.mem_of_getElem? (i := 66) (by decide +kernel)) (by decide +kernel), nj_T0_in (List.mem_of_getElem? (i := 640) rfl) (by decide +kernel), by decide +kernel⟩
abbrev nb_Sums_decidedBy : ByteArray := prog_7_method_2_code
abbrev ny_Sums_decidedBy : MethodName := ⟨"NobodyJoins$Sums", "decidedBy", "(LNobodyJoins$Club;I)I"⟩
set_option maxRecDepth 100000 in
theorem my_Sums_decidedBy : nj_MS ny_Sums_decidedBy nb_Sums_decidedBy 8 (some .int) 2 := ⟨nj_T0_in (List.mem_of_getElem? (i := 642) (by decide +kernel)) (by decide +kernel), nj_T0_in (List.mem_of_getElem? (i := 77) (by decide +kernel)) (by decide +kernel), nj_T0_in (List.mem_of_getElem? (i := 643) rfl) (by decide +kernel), by decide +kernel⟩
abbrev nb_Nj_tellPart : ByteArray := prog_1_method_57_code
abbrev ny_Nj_tellPart : MethodName := ⟨"NobodyJoins", "tellPart", "(JJ)V"⟩
set_option maxRecDepth 100000 in
theorem my_Nj_tellPart : nj_MV ny_Nj_tellPart nb_Nj_tellPart 7 none 2 := ⟨nj_T0_in (List.mem_of_getElem? (i := 652) (by decide +kernel)) (by decide +kernel), nj_T0_in (List.mem_of_getElem? (i := 17) (by decide +kernel)) (by decide +kernel), nj_T0_in (List.mem_of_getElem? (i := 66) (by decide +kernel)) (by decide +kernel), nj_T0_in (List.mem_of_getElem? (i := 653) rfl) (by decide +kernel), by decide +kernel⟩
abbrev nb_Sums_commonDivisor : ByteArray := prog_7_method_9_code
abbrev ny_Sums_commonDivisor : MethodName := ⟨"NobodyJoins$Sums", "commonDivisor", "(JJ)J"⟩
set_option maxRecDepth 100000 in
theorem my_Sums_commonDivisor : nj_MS ny_Sums_commonDivisor nb_Sums_commonDivisor 7 (some .long) 2 := ⟨nj_T0_in (List.mem_of_getElem? (i := 655) (by decide +kernel)) (by decide +kernel), nj_T0_in (List.mem_of_getElem? (i := 77) (by decide +kernel)) (by decide +kernel), nj_T0_in (List.mem_of_getElem? (i := 656) rfl) (by decide +kernel), by decide +kernel⟩
abbrev nb_Nj_share : ByteArray := prog_1_method_34_code
abbrev ny_Nj_share : MethodName := ⟨"NobodyJoins", "share", "(I)I"⟩
set_option maxRecDepth 100000 in
theorem my_Nj_share : nj_MV ny_Nj_share nb_Nj_share 5 (some .int) 1 := ⟨nj_T0_in (List.mem_of_getElem? (i := 658) (by decide +kernel)) (by decide +kernel), nj_T0_in (List.mem_of_getElem? (i := 659) (by decide +kernel)) (by decide +kernel), nj_T0_in (List.mem_of_getElem? (i := 66) (by decide +kernel)) (by decide +kernel), nj_T0_in (List.mem_of_getElem? (i := 660) rfl) (by decide +kernel), by decide +kernel⟩
abbrev nb_Club_shareOf : ByteArray := prog_2_method_13_code
abbrev ny_Club_shareOf : MethodName := ⟨"NobodyJoins$Club", "shareOf", "(I)I"⟩
set_option maxRecDepth 100000 in
theorem my_Club_shareOf : nj_MV ny_Club_shareOf nb_Club_shareOf 4 (some .int) 1 := ⟨nj_T0_in (List.mem_of_getElem? (i := 662) (by decide +kernel)) (by decide +kernel), nj_T0_in (List.mem_of_getElem? (i := 663) (by decide +kernel)) (by decide +kernel), nj_T0_in (List.mem_of_getElem? (i := 67) (by decide +kernel)) (by decide +kernel), nj_T0_in (List.mem_of_getElem? (i := 664) rfl) (by decide +kernel), by decide +kernel⟩
abbrev nb_Nj_secrets : ByteArray := prog_1_method_35_code
abbrev ny_Nj_secrets : MethodName := ⟨"NobodyJoins", "secrets", "()I"⟩
set_option maxRecDepth 100000 in
theorem my_Nj_secrets : nj_MV ny_Nj_secrets nb_Nj_secrets 3 (some .int) 0 := ⟨nj_T0_in (List.mem_of_getElem? (i := 666) (by decide +kernel)) (by decide +kernel), nj_T0_in (List.mem_of_getElem? (i := 667) (by decide +kernel)) (by decide +kernel), nj_T0_in (List.mem_of_getElem? (i := 66) (by decide +kernel)) (by decide +kernel), nj_T0_in (List.mem_of_getElem? (i := 668) rfl) (by decide +kernel), by decide +kernel⟩
abbrev nb_Nj_told : ByteArray := prog_1_method_36_code
abbrev ny_Nj_told : MethodName := ⟨"NobodyJoins", "told", "(I)I"⟩
set_option maxRecDepth 100000 in
theorem my_Nj_told : nj_MV ny_Nj_told nb_Nj_told 4 (some .int) 1 := ⟨nj_T0_in (List.mem_of_getElem? (i := 670) (by decide +kernel)) (by decide +kernel), nj_T0_in (List.mem_of_getElem? (i := 671) (by decide +kernel)) (by decide +kernel), nj_T0_in (List.mem_of_getElem? (i := 66) (by decide +kernel)) (by decide +kernel), nj_T0_in (List.mem_of_getElem? (i := 672) rfl) (by decide +kernel), by decide +kernel⟩
abbrev nb_Sums_namesSets : ByteArray := prog_7_method_3_code
abbrev ny_Sums_namesSets : MethodName := ⟨"NobodyJoins$Sums", "namesSets", "(LNobodyJoins$Row;I)Z"⟩
set_option maxRecDepth 100000 in
theorem my_Sums_namesSets : nj_MS ny_Sums_namesSets nb_Sums_namesSets 5 (some .boolean) 2 := ⟨nj_T0_in (List.mem_of_getElem? (i := 674) (by decide +kernel)) (by decide +kernel), nj_T0_in (List.mem_of_getElem? (i := 77) (by decide +kernel)) (by decide +kernel), nj_T0_in (List.mem_of_getElem? (i := 675) rfl) (by decide +kernel), by decide +kernel⟩
abbrev nb_Sums_suspects : ByteArray := prog_7_method_4_code
abbrev ny_Sums_suspects : MethodName := ⟨"NobodyJoins$Sums", "suspects", "(LNobodyJoins$Row;I)I"⟩
set_option maxRecDepth 100000 in
theorem my_Sums_suspects : nj_MS ny_Sums_suspects nb_Sums_suspects 5 (some .int) 2 := ⟨nj_T0_in (List.mem_of_getElem? (i := 677) (by decide +kernel)) (by decide +kernel), nj_T0_in (List.mem_of_getElem? (i := 77) (by decide +kernel)) (by decide +kernel), nj_T0_in (List.mem_of_getElem? (i := 678) rfl) (by decide +kernel), by decide +kernel⟩
abbrev nb_Nj_minutes : ByteArray := prog_1_method_37_code
abbrev ny_Nj_minutes : MethodName := ⟨"NobodyJoins", "minutes", "(I)I"⟩
set_option maxRecDepth 100000 in
theorem my_Nj_minutes : nj_MV ny_Nj_minutes nb_Nj_minutes 4 (some .int) 1 := ⟨nj_T0_in (List.mem_of_getElem? (i := 680) (by decide +kernel)) (by decide +kernel), nj_T0_in (List.mem_of_getElem? (i := 681) (by decide +kernel)) (by decide +kernel), nj_T0_in (List.mem_of_getElem? (i := 66) (by decide +kernel)) (by decide +kernel), nj_T0_in (List.mem_of_getElem? (i := 682) rfl) (by decide +kernel), by decide +kernel⟩
abbrev nb_Sums_likingsOf : ByteArray := prog_7_method_5_code
abbrev ny_Sums_likingsOf : MethodName := ⟨"NobodyJoins$Sums", "likingsOf", "(LNobodyJoins$Row;LNobodyJoins$Club;)J"⟩
set_option maxRecDepth 100000 in
theorem my_Sums_likingsOf : nj_MS ny_Sums_likingsOf nb_Sums_likingsOf 5 (some .long) 2 := ⟨nj_T0_in (List.mem_of_getElem? (i := 684) (by decide +kernel)) (by decide +kernel), nj_T0_in (List.mem_of_getElem? (i := 77) (by decide +kernel)) (by decide +kernel), nj_T0_in (List.mem_of_getElem? (i := 685) rfl) (by decide +kernel), by decide +kernel⟩
abbrev nb_Sums_isNamed : ByteArray := prog_7_method_6_code
abbrev ny_Sums_isNamed : MethodName := ⟨"NobodyJoins$Sums", "isNamed", "(LNobodyJoins$Row;I)Z"⟩
set_option maxRecDepth 100000 in
theorem my_Sums_isNamed : nj_MS ny_Sums_isNamed nb_Sums_isNamed 3 (some .boolean) 2 := ⟨nj_T0_in (List.mem_of_getElem? (i := 687) (by decide +kernel)) (by decide +kernel), nj_T0_in (List.mem_of_getElem? (i := 77) (by decide +kernel)) (by decide +kernel), nj_T0_in (List.mem_of_getElem? (i := 688) rfl) (by decide +kernel), by decide +kernel⟩
abbrev nb_Sums_likersThatFit : ByteArray := prog_7_method_7_code
abbrev ny_Sums_likersThatFit : MethodName := ⟨"NobodyJoins$Sums", "likersThatFit", "(LNobodyJoins$Row;LNobodyJoins$Club;I)I"⟩
set_option maxRecDepth 100000 in
theorem my_Sums_likersThatFit : nj_MS ny_Sums_likersThatFit nb_Sums_likersThatFit 7 (some .int) 3 := ⟨nj_T0_in (List.mem_of_getElem? (i := 690) (by decide +kernel)) (by decide +kernel), nj_T0_in (List.mem_of_getElem? (i := 77) (by decide +kernel)) (by decide +kernel), nj_T0_in (List.mem_of_getElem? (i := 691) rfl) (by decide +kernel), by decide +kernel⟩
abbrev nb_Sums_allSay : ByteArray := prog_7_method_8_code
abbrev ny_Sums_allSay : MethodName := ⟨"NobodyJoins$Sums", "allSay", "(LNobodyJoins$Row;II)Z"⟩
set_option maxRecDepth 100000 in
theorem my_Sums_allSay : nj_MS ny_Sums_allSay nb_Sums_allSay 4 (some .boolean) 3 := ⟨nj_T0_in (List.mem_of_getElem? (i := 694) (by decide +kernel)) (by decide +kernel), nj_T0_in (List.mem_of_getElem? (i := 77) (by decide +kernel)) (by decide +kernel), nj_T0_in (List.mem_of_getElem? (i := 695) rfl) (by decide +kernel), by decide +kernel⟩
abbrev nb_Nj_odds : ByteArray := prog_1_method_38_code
abbrev ny_Nj_odds : MethodName := ⟨"NobodyJoins", "odds", "(I)I"⟩
set_option maxRecDepth 100000 in
theorem my_Nj_odds : nj_MV ny_Nj_odds nb_Nj_odds 9 (some .int) 1 := ⟨nj_T0_in (List.mem_of_getElem? (i := 697) (by decide +kernel)) (by decide +kernel), nj_T0_in (List.mem_of_getElem? (i := 698) (by decide +kernel)) (by decide +kernel), nj_T0_in (List.mem_of_getElem? (i := 66) (by decide +kernel)) (by decide +kernel), nj_T0_in (List.mem_of_getElem? (i := 699) rfl) (by decide +kernel), by decide +kernel⟩
abbrev nb_Nj_lots : ByteArray := prog_1_method_39_code
abbrev ny_Nj_lots : MethodName := ⟨"NobodyJoins", "lots", "(II)I"⟩
set_option maxRecDepth 100000 in
theorem my_Nj_lots : nj_MV ny_Nj_lots nb_Nj_lots 6 (some .int) 2 := ⟨nj_T0_in (List.mem_of_getElem? (i := 703) (by decide +kernel)) (by decide +kernel), nj_T0_in (List.mem_of_getElem? (i := 704) (by decide +kernel)) (by decide +kernel), nj_T0_in (List.mem_of_getElem? (i := 66) (by decide +kernel)) (by decide +kernel), nj_T0_in (List.mem_of_getElem? (i := 705) rfl) (by decide +kernel), by decide +kernel⟩
abbrev nb_Club_doByLot : ByteArray := prog_2_method_26_code
abbrev ny_Club_doByLot : MethodName := ⟨"NobodyJoins$Club", "doByLot", "(I)V"⟩
set_option maxRecDepth 100000 in
theorem my_Club_doByLot : nj_MV ny_Club_doByLot nb_Club_doByLot 4 none 1 := ⟨nj_T0_in (List.mem_of_getElem? (i := 709) (by decide +kernel)) (by decide +kernel), nj_T0_in (List.mem_of_getElem? (i := 710) (by decide +kernel)) (by decide +kernel), nj_T0_in (List.mem_of_getElem? (i := 67) (by decide +kernel)) (by decide +kernel), nj_T0_in (List.mem_of_getElem? (i := 711) rfl) (by decide +kernel), by decide +kernel⟩
abbrev nb_Nj_asked : ByteArray := prog_1_method_40_code
abbrev ny_Nj_asked : MethodName := ⟨"NobodyJoins", "asked", "()I"⟩
set_option maxRecDepth 100000 in
theorem my_Nj_asked : nj_MV ny_Nj_asked nb_Nj_asked 1 (some .int) 0 := ⟨nj_T0_in (List.mem_of_getElem? (i := 718) (by decide +kernel)) (by decide +kernel), nj_T0_in (List.mem_of_getElem? (i := 719) (by decide +kernel)) (by decide +kernel), nj_T0_in (List.mem_of_getElem? (i := 66) (by decide +kernel)) (by decide +kernel), nj_T0_in (List.mem_of_getElem? (i := 720) rfl) (by decide +kernel), by decide +kernel⟩
abbrev nb_Nj_upper : ByteArray := prog_1_method_41_code
abbrev ny_Nj_upper : MethodName := ⟨"NobodyJoins", "upper", "()J"⟩
set_option maxRecDepth 100000 in
theorem my_Nj_upper : nj_MV ny_Nj_upper nb_Nj_upper 1 (some .long) 0 := ⟨nj_T0_in (List.mem_of_getElem? (i := 722) (by decide +kernel)) (by decide +kernel), nj_T0_in (List.mem_of_getElem? (i := 723) (by decide +kernel)) (by decide +kernel), nj_T0_in (List.mem_of_getElem? (i := 66) (by decide +kernel)) (by decide +kernel), nj_T0_in (List.mem_of_getElem? (i := 724) rfl) (by decide +kernel), by decide +kernel⟩
abbrev nb_Nj_lower : ByteArray := prog_1_method_42_code
abbrev ny_Nj_lower : MethodName := ⟨"NobodyJoins", "lower", "()J"⟩
set_option maxRecDepth 100000 in
theorem my_Nj_lower : nj_MV ny_Nj_lower nb_Nj_lower 1 (some .long) 0 := ⟨nj_T0_in (List.mem_of_getElem? (i := 726) (by decide +kernel)) (by decide +kernel), nj_T0_in (List.mem_of_getElem? (i := 727) (by decide +kernel)) (by decide +kernel), nj_T0_in (List.mem_of_getElem? (i := 66) (by decide +kernel)) (by decide +kernel), nj_T0_in (List.mem_of_getElem? (i := 728) rfl) (by decide +kernel), by decide +kernel⟩
abbrev nb_Nj_count : ByteArray := prog_1_method_43_code
abbrev ny_Nj_count : MethodName := ⟨"NobodyJoins", "count", "(I)I"⟩
set_option maxRecDepth 100000 in
theorem my_Nj_count : nj_MV ny_Nj_count nb_Nj_count 2 (some .int) 1 := ⟨nj_T0_in (List.mem_of_getElem? (i := 730) (by decide +kernel)) (by decide +kernel), nj_T0_in (List.mem_of_getElem? (i := 731) (by decide +kernel)) (by decide +kernel), nj_T0_in (List.mem_of_getElem? (i := 66) (by decide +kernel)) (by decide +kernel), nj_T0_in (List.mem_of_getElem? (i := 732) rfl) (by decide +kernel), by decide +kernel⟩
abbrev nb_Nj_rowsThere : ByteArray := prog_1_method_58_code
abbrev ny_Nj_rowsThere : MethodName := ⟨"NobodyJoins", "rowsThere", "()I"⟩
set_option maxRecDepth 100000 in
theorem my_Nj_rowsThere : nj_MV ny_Nj_rowsThere nb_Nj_rowsThere 3 (some .int) 0 := ⟨nj_T0_in (List.mem_of_getElem? (i := 736) (by decide +kernel)) (by decide +kernel), nj_T0_in (List.mem_of_getElem? (i := 18) (by decide +kernel)) (by decide +kernel), nj_T0_in (List.mem_of_getElem? (i := 66) (by decide +kernel)) (by decide +kernel), nj_T0_in (List.mem_of_getElem? (i := 737) rfl) (by decide +kernel), by decide +kernel⟩
abbrev nb_Nj_textsThere : ByteArray := prog_1_method_59_code
abbrev ny_Nj_textsThere : MethodName := ⟨"NobodyJoins", "textsThere", "()I"⟩
set_option maxRecDepth 100000 in
theorem my_Nj_textsThere : nj_MV ny_Nj_textsThere nb_Nj_textsThere 3 (some .int) 0 := ⟨nj_T0_in (List.mem_of_getElem? (i := 740) (by decide +kernel)) (by decide +kernel), nj_T0_in (List.mem_of_getElem? (i := 19) (by decide +kernel)) (by decide +kernel), nj_T0_in (List.mem_of_getElem? (i := 66) (by decide +kernel)) (by decide +kernel), nj_T0_in (List.mem_of_getElem? (i := 741) rfl) (by decide +kernel), by decide +kernel⟩
abbrev nb_Nj_clubsKept : ByteArray := prog_1_method_60_code
abbrev ny_Nj_clubsKept : MethodName := ⟨"NobodyJoins", "clubsKept", "()I"⟩
set_option maxRecDepth 100000 in
theorem my_Nj_clubsKept : nj_MV ny_Nj_clubsKept nb_Nj_clubsKept 3 (some .int) 0 := ⟨nj_T0_in (List.mem_of_getElem? (i := 744) (by decide +kernel)) (by decide +kernel), nj_T0_in (List.mem_of_getElem? (i := 20) (by decide +kernel)) (by decide +kernel), nj_T0_in (List.mem_of_getElem? (i := 66) (by decide +kernel)) (by decide +kernel), nj_T0_in (List.mem_of_getElem? (i := 745) rfl) (by decide +kernel), by decide +kernel⟩
abbrev nb_Nj_finding : ByteArray := prog_1_method_44_code
abbrev ny_Nj_finding : MethodName := ⟨"NobodyJoins", "finding", "()I"⟩
set_option maxRecDepth 100000 in
theorem my_Nj_finding : nj_MV ny_Nj_finding nb_Nj_finding 1 (some .int) 0 := ⟨nj_T0_in (List.mem_of_getElem? (i := 747) (by decide +kernel)) (by decide +kernel), nj_T0_in (List.mem_of_getElem? (i := 748) (by decide +kernel)) (by decide +kernel), nj_T0_in (List.mem_of_getElem? (i := 66) (by decide +kernel)) (by decide +kernel), nj_T0_in (List.mem_of_getElem? (i := 749) rfl) (by decide +kernel), by decide +kernel⟩
abbrev nb_Nj_findings : ByteArray := prog_1_method_45_code
abbrev ny_Nj_findings : MethodName := ⟨"NobodyJoins", "findings", "(I)I"⟩
set_option maxRecDepth 100000 in
theorem my_Nj_findings : nj_MV ny_Nj_findings nb_Nj_findings 2 (some .int) 1 := ⟨nj_T0_in (List.mem_of_getElem? (i := 751) (by decide +kernel)) (by decide +kernel), nj_T0_in (List.mem_of_getElem? (i := 752) (by decide +kernel)) (by decide +kernel), nj_T0_in (List.mem_of_getElem? (i := 66) (by decide +kernel)) (by decide +kernel), nj_T0_in (List.mem_of_getElem? (i := 753) rfl) (by decide +kernel), by decide +kernel⟩
abbrev nb_Nj_digest : ByteArray := prog_1_method_46_code
abbrev ny_Nj_digest : MethodName := ⟨"NobodyJoins", "digest", "()J"⟩
set_option maxRecDepth 100000 in
theorem my_Nj_digest : nj_MV ny_Nj_digest nb_Nj_digest 5 (some .long) 0 := ⟨nj_T0_in (List.mem_of_getElem? (i := 755) (by decide +kernel)) (by decide +kernel), nj_T0_in (List.mem_of_getElem? (i := 756) (by decide +kernel)) (by decide +kernel), nj_T0_in (List.mem_of_getElem? (i := 66) (by decide +kernel)) (by decide +kernel), nj_T0_in (List.mem_of_getElem? (i := 757) rfl) (by decide +kernel), by decide +kernel⟩
abbrev nb_Row_digestedInto : ByteArray := prog_6_method_7_code
abbrev ny_Row_digestedInto : MethodName := ⟨"NobodyJoins$Row", "digestedInto", "(J)J"⟩
set_option maxRecDepth 100000 in
theorem my_Row_digestedInto : nj_MV ny_Row_digestedInto nb_Row_digestedInto 6 (some .long) 1 := ⟨nj_T0_in (List.mem_of_getElem? (i := 762) (by decide +kernel)) (by decide +kernel), nj_T0_in (List.mem_of_getElem? (i := 763) (by decide +kernel)) (by decide +kernel), nj_T0_in (List.mem_of_getElem? (i := 70) (by decide +kernel)) (by decide +kernel), nj_T0_in (List.mem_of_getElem? (i := 764) rfl) (by decide +kernel), by decide +kernel⟩
abbrev nb_Text_digestedInto : ByteArray := prog_8_method_7_code
abbrev ny_Text_digestedInto : MethodName := ⟨"NobodyJoins$Text", "digestedInto", "(J)J"⟩
set_option maxRecDepth 100000 in
theorem my_Text_digestedInto : nj_MV ny_Text_digestedInto nb_Text_digestedInto 6 (some .long) 1 := ⟨nj_T0_in (List.mem_of_getElem? (i := 767) (by decide +kernel)) (by decide +kernel), nj_T0_in (List.mem_of_getElem? (i := 768) (by decide +kernel)) (by decide +kernel), nj_T0_in (List.mem_of_getElem? (i := 71) (by decide +kernel)) (by decide +kernel), nj_T0_in (List.mem_of_getElem? (i := 769) rfl) (by decide +kernel), by decide +kernel⟩
abbrev nb_Md_init : ByteArray := prog_10_method_1_code
abbrev ny_Md_init : MethodName := ⟨"NobodyJoinsModel", "<init>", "()V"⟩
abbrev nb_Md_row : ByteArray := prog_10_method_9_code
abbrev ny_Md_row : MethodName := ⟨"NobodyJoinsModel", "row", "(II)I"⟩
set_option maxRecDepth 100000 in
theorem my_Md_row : nj_MV ny_Md_row nb_Md_row 3 (some .int) 2 := ⟨nj_T0_in (List.mem_of_getElem? (i := 849) (by decide +kernel)) (by decide +kernel), nj_T0_in (List.mem_of_getElem? (i := 850) (by decide +kernel)) (by decide +kernel), nj_T0_in (List.mem_of_getElem? (i := 72) (by decide +kernel)) (by decide +kernel), nj_T0_in (List.mem_of_getElem? (i := 851) rfl) (by decide +kernel), by decide +kernel⟩
abbrev nb_Md_isRow : ByteArray := prog_10_method_7_code
abbrev ny_Md_isRow : MethodName := ⟨"NobodyJoinsModel", "isRow", "(I)Z"⟩
set_option maxRecDepth 100000 in
theorem my_Md_isRow : nj_MS ny_Md_isRow nb_Md_isRow 1 (some .boolean) 1 := ⟨nj_T0_in (List.mem_of_getElem? (i := 853) (by decide +kernel)) (by decide +kernel), nj_T0_in (List.mem_of_getElem? (i := 72) (by decide +kernel)) (by decide +kernel), nj_T0_in (List.mem_of_getElem? (i := 854) rfl) (by decide +kernel), by decide +kernel⟩
abbrev nb_Md_in : ByteArray := prog_10_method_3_code
abbrev ny_Md_in : MethodName := ⟨"NobodyJoinsModel", "in", "(JJJ)Z"⟩
set_option maxRecDepth 100000 in
theorem my_Md_in : nj_MS ny_Md_in nb_Md_in 6 (some .boolean) 3 := ⟨nj_T0_in (List.mem_of_getElem? (i := 857) (by decide +kernel)) (by decide +kernel), nj_T0_in (List.mem_of_getElem? (i := 72) (by decide +kernel)) (by decide +kernel), nj_T0_in (List.mem_of_getElem? (i := 858) rfl) (by decide +kernel), by decide +kernel⟩
abbrev nb_Md_find : ByteArray := prog_10_method_5_code
abbrev ny_Md_find : MethodName := ⟨"NobodyJoinsModel", "find", "(I)I"⟩
set_option maxRecDepth 100000 in
theorem my_Md_find : nj_MV ny_Md_find nb_Md_find 2 (some .int) 1 := ⟨nj_T0_in (List.mem_of_getElem? (i := 861) (by decide +kernel)) (by decide +kernel), nj_T0_in (List.mem_of_getElem? (i := 21) (by decide +kernel)) (by decide +kernel), nj_T0_in (List.mem_of_getElem? (i := 72) (by decide +kernel)) (by decide +kernel), nj_T0_in (List.mem_of_getElem? (i := 862) rfl) (by decide +kernel), by decide +kernel⟩
abbrev nb_Md_makeRow : ByteArray := prog_10_method_10_code
abbrev ny_Md_makeRow : MethodName := ⟨"NobodyJoinsModel", "makeRow", "(II)V"⟩
set_option maxRecDepth 100000 in
theorem my_Md_makeRow : nj_MV ny_Md_makeRow nb_Md_makeRow 4 none 2 := ⟨nj_T0_in (List.mem_of_getElem? (i := 865) (by decide +kernel)) (by decide +kernel), nj_T0_in (List.mem_of_getElem? (i := 22) (by decide +kernel)) (by decide +kernel), nj_T0_in (List.mem_of_getElem? (i := 72) (by decide +kernel)) (by decide +kernel), nj_T0_in (List.mem_of_getElem? (i := 866) rfl) (by decide +kernel), by decide +kernel⟩
abbrev nb_Md_lay : ByteArray := prog_10_method_12_code
abbrev ny_Md_lay : MethodName := ⟨"NobodyJoinsModel", "lay", "(III)I"⟩
set_option maxRecDepth 100000 in
theorem my_Md_lay : nj_MV ny_Md_lay nb_Md_lay 6 (some .int) 3 := ⟨nj_T0_in (List.mem_of_getElem? (i := 868) (by decide +kernel)) (by decide +kernel), nj_T0_in (List.mem_of_getElem? (i := 869) (by decide +kernel)) (by decide +kernel), nj_T0_in (List.mem_of_getElem? (i := 72) (by decide +kernel)) (by decide +kernel), nj_T0_in (List.mem_of_getElem? (i := 870) rfl) (by decide +kernel), by decide +kernel⟩
abbrev nb_Md_refused : ByteArray := prog_10_method_11_code
abbrev ny_Md_refused : MethodName := ⟨"NobodyJoinsModel", "refused", "(II)I"⟩
set_option maxRecDepth 100000 in
theorem my_Md_refused : nj_MV ny_Md_refused nb_Md_refused 3 (some .int) 2 := ⟨nj_T0_in (List.mem_of_getElem? (i := 873) (by decide +kernel)) (by decide +kernel), nj_T0_in (List.mem_of_getElem? (i := 23) (by decide +kernel)) (by decide +kernel), nj_T0_in (List.mem_of_getElem? (i := 72) (by decide +kernel)) (by decide +kernel), nj_T0_in (List.mem_of_getElem? (i := 874) rfl) (by decide +kernel), by decide +kernel⟩
abbrev nb_Md_tell : ByteArray := prog_10_method_6_code
abbrev ny_Md_tell : MethodName := ⟨"NobodyJoinsModel", "tell", "(I)I"⟩
set_option maxRecDepth 100000 in
theorem my_Md_tell : nj_MV ny_Md_tell nb_Md_tell 2 (some .int) 1 := ⟨nj_T0_in (List.mem_of_getElem? (i := 877) (by decide +kernel)) (by decide +kernel), nj_T0_in (List.mem_of_getElem? (i := 24) (by decide +kernel)) (by decide +kernel), nj_T0_in (List.mem_of_getElem? (i := 72) (by decide +kernel)) (by decide +kernel), nj_T0_in (List.mem_of_getElem? (i := 878) rfl) (by decide +kernel), by decide +kernel⟩
abbrev nb_Md_at : ByteArray := prog_10_method_13_code
abbrev ny_Md_at : MethodName := ⟨"NobodyJoinsModel", "at", "(II)I"⟩
set_option maxRecDepth 100000 in
theorem my_Md_at : nj_MV ny_Md_at nb_Md_at 4 (some .int) 2 := ⟨nj_T0_in (List.mem_of_getElem? (i := 880) (by decide +kernel)) (by decide +kernel), nj_T0_in (List.mem_of_getElem? (i := 881) (by decide +kernel)) (by decide +kernel), nj_T0_in (List.mem_of_getElem? (i := 72) (by decide +kernel)) (by decide +kernel), nj_T0_in (List.mem_of_getElem? (i := 882) rfl) (by decide +kernel), by decide +kernel⟩
abbrev nb_Md_tear : ByteArray := prog_10_method_14_code
abbrev ny_Md_tear : MethodName := ⟨"NobodyJoinsModel", "tear", "(I)I"⟩
set_option maxRecDepth 100000 in
theorem my_Md_tear : nj_MV ny_Md_tear nb_Md_tear 2 (some .int) 1 := ⟨nj_T0_in (List.mem_of_getElem? (i := 884) (by decide +kernel)) (by decide +kernel), nj_T0_in (List.mem_of_getElem? (i := 885) (by decide +kernel)) (by decide +kernel), nj_T0_in (List.mem_of_getElem? (i := 72) (by decide +kernel)) (by decide +kernel), nj_T0_in (List.mem_of_getElem? (i := 886) rfl) (by decide +kernel), by decide +kernel⟩
abbrev nb_Md_copy : ByteArray := prog_10_method_16_code
abbrev ny_Md_copy : MethodName := ⟨"NobodyJoinsModel", "copy", "(IIIII)I"⟩
set_option maxRecDepth 100000 in
theorem my_Md_copy : nj_MV ny_Md_copy nb_Md_copy 9 (some .int) 5 := ⟨nj_T0_in (List.mem_of_getElem? (i := 888) (by decide +kernel)) (by decide +kernel), nj_T0_in (List.mem_of_getElem? (i := 889) (by decide +kernel)) (by decide +kernel), nj_T0_in (List.mem_of_getElem? (i := 72) (by decide +kernel)) (by decide +kernel), nj_T0_in (List.mem_of_getElem? (i := 890) rfl) (by decide +kernel), by decide +kernel⟩
abbrev nb_Md_isSpan : ByteArray := prog_10_method_15_code
abbrev ny_Md_isSpan : MethodName := ⟨"NobodyJoinsModel", "isSpan", "(III)Z"⟩
set_option maxRecDepth 100000 in
theorem my_Md_isSpan : nj_MV ny_Md_isSpan nb_Md_isSpan 4 (some .boolean) 3 := ⟨nj_T0_in (List.mem_of_getElem? (i := 893) (by decide +kernel)) (by decide +kernel), nj_T0_in (List.mem_of_getElem? (i := 25) (by decide +kernel)) (by decide +kernel), nj_T0_in (List.mem_of_getElem? (i := 72) (by decide +kernel)) (by decide +kernel), nj_T0_in (List.mem_of_getElem? (i := 894) rfl) (by decide +kernel), by decide +kernel⟩
abbrev nb_Md_mean : ByteArray := prog_10_method_17_code
abbrev ny_Md_mean : MethodName := ⟨"NobodyJoinsModel", "mean", "(I)I"⟩
set_option maxRecDepth 100000 in
theorem my_Md_mean : nj_MV ny_Md_mean nb_Md_mean 5 (some .int) 1 := ⟨nj_T0_in (List.mem_of_getElem? (i := 896) (by decide +kernel)) (by decide +kernel), nj_T0_in (List.mem_of_getElem? (i := 897) (by decide +kernel)) (by decide +kernel), nj_T0_in (List.mem_of_getElem? (i := 72) (by decide +kernel)) (by decide +kernel), nj_T0_in (List.mem_of_getElem? (i := 898) rfl) (by decide +kernel), by decide +kernel⟩
abbrev nb_Md_text : ByteArray := prog_10_method_18_code
abbrev ny_Md_text : MethodName := ⟨"NobodyJoinsModel", "text", "(II)I"⟩
set_option maxRecDepth 100000 in
theorem my_Md_text : nj_MV ny_Md_text nb_Md_text 4 (some .int) 2 := ⟨nj_T0_in (List.mem_of_getElem? (i := 900) (by decide +kernel)) (by decide +kernel), nj_T0_in (List.mem_of_getElem? (i := 901) (by decide +kernel)) (by decide +kernel), nj_T0_in (List.mem_of_getElem? (i := 72) (by decide +kernel)) (by decide +kernel), nj_T0_in (List.mem_of_getElem? (i := 902) rfl) (by decide +kernel), by decide +kernel⟩
abbrev nb_Md_isText : ByteArray := prog_10_method_8_code
abbrev ny_Md_isText : MethodName := ⟨"NobodyJoinsModel", "isText", "(I)Z"⟩
set_option maxRecDepth 100000 in
theorem my_Md_isText : nj_MS ny_Md_isText nb_Md_isText 1 (some .boolean) 1 := ⟨nj_T0_in (List.mem_of_getElem? (i := 904) (by decide +kernel)) (by decide +kernel), nj_T0_in (List.mem_of_getElem? (i := 72) (by decide +kernel)) (by decide +kernel), nj_T0_in (List.mem_of_getElem? (i := 905) rfl) (by decide +kernel), by decide +kernel⟩
abbrev nb_Md_put : ByteArray := prog_10_method_19_code
abbrev ny_Md_put : MethodName := ⟨"NobodyJoinsModel", "put", "(III)I"⟩
set_option maxRecDepth 100000 in
theorem my_Md_put : nj_MV ny_Md_put nb_Md_put 5 (some .int) 3 := ⟨nj_T0_in (List.mem_of_getElem? (i := 908) (by decide +kernel)) (by decide +kernel), nj_T0_in (List.mem_of_getElem? (i := 909) (by decide +kernel)) (by decide +kernel), nj_T0_in (List.mem_of_getElem? (i := 72) (by decide +kernel)) (by decide +kernel), nj_T0_in (List.mem_of_getElem? (i := 910) rfl) (by decide +kernel), by decide +kernel⟩
abbrev nb_Md_fault : ByteArray := prog_10_method_28_code
abbrev ny_Md_fault : MethodName := ⟨"NobodyJoinsModel", "fault", "(I)I"⟩
set_option maxRecDepth 100000 in
theorem my_Md_fault : nj_MV ny_Md_fault nb_Md_fault 2 (some .int) 1 := ⟨nj_T0_in (List.mem_of_getElem? (i := 912) (by decide +kernel)) (by decide +kernel), nj_T0_in (List.mem_of_getElem? (i := 913) (by decide +kernel)) (by decide +kernel), nj_T0_in (List.mem_of_getElem? (i := 72) (by decide +kernel)) (by decide +kernel), nj_T0_in (List.mem_of_getElem? (i := 914) rfl) (by decide +kernel), by decide +kernel⟩
abbrev nb_Md_faultOf : ByteArray := prog_10_method_27_code
abbrev ny_Md_faultOf : MethodName := ⟨"NobodyJoinsModel", "faultOf", "(I)I"⟩
set_option maxRecDepth 100000 in
theorem my_Md_faultOf : nj_MV ny_Md_faultOf nb_Md_faultOf 3 (some .int) 1 := ⟨nj_T0_in (List.mem_of_getElem? (i := 917) (by decide +kernel)) (by decide +kernel), nj_T0_in (List.mem_of_getElem? (i := 26) (by decide +kernel)) (by decide +kernel), nj_T0_in (List.mem_of_getElem? (i := 72) (by decide +kernel)) (by decide +kernel), nj_T0_in (List.mem_of_getElem? (i := 918) rfl) (by decide +kernel), by decide +kernel⟩
abbrev nb_Md_readsRule : ByteArray := prog_10_method_23_code
abbrev ny_Md_readsRule : MethodName := ⟨"NobodyJoinsModel", "readsRule", "()Z"⟩
set_option maxRecDepth 100000 in
theorem my_Md_readsRule : nj_MV ny_Md_readsRule nb_Md_readsRule 1 (some .boolean) 0 := ⟨nj_T0_in (List.mem_of_getElem? (i := 921) (by decide +kernel)) (by decide +kernel), nj_T0_in (List.mem_of_getElem? (i := 27) (by decide +kernel)) (by decide +kernel), nj_T0_in (List.mem_of_getElem? (i := 72) (by decide +kernel)) (by decide +kernel), nj_T0_in (List.mem_of_getElem? (i := 922) rfl) (by decide +kernel), by decide +kernel⟩
abbrev nb_Md_skip : ByteArray := prog_10_method_21_code
abbrev ny_Md_skip : MethodName := ⟨"NobodyJoinsModel", "skip", "()V"⟩
set_option maxRecDepth 100000 in
theorem my_Md_skip : nj_MV ny_Md_skip nb_Md_skip 1 none 0 := ⟨nj_T0_in (List.mem_of_getElem? (i := 925) (by decide +kernel)) (by decide +kernel), nj_T0_in (List.mem_of_getElem? (i := 28) (by decide +kernel)) (by decide +kernel), nj_T0_in (List.mem_of_getElem? (i := 72) (by decide +kernel)) (by decide +kernel), nj_T0_in (List.mem_of_getElem? (i := 926) rfl) (by decide +kernel), by decide +kernel⟩
abbrev nb_Md_here : ByteArray := prog_10_method_20_code
abbrev ny_Md_here : MethodName := ⟨"NobodyJoinsModel", "here", "()I"⟩
set_option maxRecDepth 100000 in
theorem my_Md_here : nj_MV ny_Md_here nb_Md_here 1 (some .int) 0 := ⟨nj_T0_in (List.mem_of_getElem? (i := 929) (by decide +kernel)) (by decide +kernel), nj_T0_in (List.mem_of_getElem? (i := 29) (by decide +kernel)) (by decide +kernel), nj_T0_in (List.mem_of_getElem? (i := 72) (by decide +kernel)) (by decide +kernel), nj_T0_in (List.mem_of_getElem? (i := 930) rfl) (by decide +kernel), by decide +kernel⟩
abbrev nb_Md_figure : ByteArray := prog_10_method_22_code
abbrev ny_Md_figure : MethodName := ⟨"NobodyJoinsModel", "figure", "(I)I"⟩
set_option maxRecDepth 100000 in
theorem my_Md_figure : nj_MV ny_Md_figure nb_Md_figure 2 (some .int) 1 := ⟨nj_T0_in (List.mem_of_getElem? (i := 933) (by decide +kernel)) (by decide +kernel), nj_T0_in (List.mem_of_getElem? (i := 30) (by decide +kernel)) (by decide +kernel), nj_T0_in (List.mem_of_getElem? (i := 72) (by decide +kernel)) (by decide +kernel), nj_T0_in (List.mem_of_getElem? (i := 934) rfl) (by decide +kernel), by decide +kernel⟩
abbrev nb_Md_readsPair : ByteArray := prog_10_method_26_code
abbrev ny_Md_readsPair : MethodName := ⟨"NobodyJoinsModel", "readsPair", "()Z"⟩
set_option maxRecDepth 100000 in
theorem my_Md_readsPair : nj_MV ny_Md_readsPair nb_Md_readsPair 3 (some .boolean) 0 := ⟨nj_T0_in (List.mem_of_getElem? (i := 938) (by decide +kernel)) (by decide +kernel), nj_T0_in (List.mem_of_getElem? (i := 31) (by decide +kernel)) (by decide +kernel), nj_T0_in (List.mem_of_getElem? (i := 72) (by decide +kernel)) (by decide +kernel), nj_T0_in (List.mem_of_getElem? (i := 939) rfl) (by decide +kernel), by decide +kernel⟩
abbrev nb_Md_has : ByteArray := prog_10_method_4_code
abbrev ny_Md_has : MethodName := ⟨"NobodyJoinsModel", "has", "(II)Z"⟩
set_option maxRecDepth 100000 in
theorem my_Md_has : nj_MS ny_Md_has nb_Md_has 2 (some .boolean) 2 := ⟨nj_T0_in (List.mem_of_getElem? (i := 941) (by decide +kernel)) (by decide +kernel), nj_T0_in (List.mem_of_getElem? (i := 72) (by decide +kernel)) (by decide +kernel), nj_T0_in (List.mem_of_getElem? (i := 942) rfl) (by decide +kernel), by decide +kernel⟩
abbrev nb_Md_readsChild : ByteArray := prog_10_method_25_code
abbrev ny_Md_readsChild : MethodName := ⟨"NobodyJoinsModel", "readsChild", "()Z"⟩
set_option maxRecDepth 100000 in
theorem my_Md_readsChild : nj_MV ny_Md_readsChild nb_Md_readsChild 3 (some .boolean) 0 := ⟨nj_T0_in (List.mem_of_getElem? (i := 945) (by decide +kernel)) (by decide +kernel), nj_T0_in (List.mem_of_getElem? (i := 32) (by decide +kernel)) (by decide +kernel), nj_T0_in (List.mem_of_getElem? (i := 72) (by decide +kernel)) (by decide +kernel), nj_T0_in (List.mem_of_getElem? (i := 946) rfl) (by decide +kernel), by decide +kernel⟩
abbrev nb_Md_kindOfLetter : ByteArray := prog_10_method_24_code
abbrev ny_Md_kindOfLetter : MethodName := ⟨"NobodyJoinsModel", "kindOfLetter", "(I)I"⟩
set_option maxRecDepth 100000 in
theorem my_Md_kindOfLetter : nj_MS ny_Md_kindOfLetter nb_Md_kindOfLetter 1 (some .int) 1 := ⟨nj_T0_in (List.mem_of_getElem? (i := 948) (by decide +kernel)) (by decide +kernel), nj_T0_in (List.mem_of_getElem? (i := 72) (by decide +kernel)) (by decide +kernel), nj_T0_in (List.mem_of_getElem? (i := 949) rfl) (by decide +kernel), by decide +kernel⟩
abbrev nb_Md_club : ByteArray := prog_10_method_29_code
abbrev ny_Md_club : MethodName := ⟨"NobodyJoinsModel", "club", "(I)I"⟩
set_option maxRecDepth 100000 in
theorem my_Md_club : nj_MV ny_Md_club nb_Md_club 3 (some .int) 1 := ⟨nj_T0_in (List.mem_of_getElem? (i := 951) (by decide +kernel)) (by decide +kernel), nj_T0_in (List.mem_of_getElem? (i := 952) (by decide +kernel)) (by decide +kernel), nj_T0_in (List.mem_of_getElem? (i := 72) (by decide +kernel)) (by decide +kernel), nj_T0_in (List.mem_of_getElem? (i := 953) rfl) (by decide +kernel), by decide +kernel⟩
abbrev nb_Md_child : ByteArray := prog_10_method_44_code
abbrev ny_Md_child : MethodName := ⟨"NobodyJoinsModel", "child", "(II)I"⟩
set_option maxRecDepth 100000 in
theorem my_Md_child : nj_MV ny_Md_child nb_Md_child 3 (some .int) 2 := ⟨nj_T0_in (List.mem_of_getElem? (i := 955) (by decide +kernel)) (by decide +kernel), nj_T0_in (List.mem_of_getElem? (i := 956) (by decide +kernel)) (by decide +kernel), nj_T0_in (List.mem_of_getElem? (i := 72) (by decide +kernel)) (by decide +kernel), nj_T0_in (List.mem_of_getElem? (i := 957) rfl) (by decide +kernel), by decide +kernel⟩
abbrev nb_Md_isChild : ByteArray := prog_10_method_30_code
abbrev ny_Md_isChild : MethodName := ⟨"NobodyJoinsModel", "isChild", "(I)Z"⟩
set_option maxRecDepth 100000 in
theorem my_Md_isChild : nj_MV ny_Md_isChild nb_Md_isChild 2 (some .boolean) 1 := ⟨nj_T0_in (List.mem_of_getElem? (i := 960) (by decide +kernel)) (by decide +kernel), nj_T0_in (List.mem_of_getElem? (i := 33) (by decide +kernel)) (by decide +kernel), nj_T0_in (List.mem_of_getElem? (i := 72) (by decide +kernel)) (by decide +kernel), nj_T0_in (List.mem_of_getElem? (i := 961) rfl) (by decide +kernel), by decide +kernel⟩
abbrev nb_Md_toldOf : ByteArray := prog_10_method_43_code
abbrev ny_Md_toldOf : MethodName := ⟨"NobodyJoinsModel", "toldOf", "(II)I"⟩
set_option maxRecDepth 100000 in
theorem my_Md_toldOf : nj_MV ny_Md_toldOf nb_Md_toldOf 3 (some .int) 2 := ⟨nj_T0_in (List.mem_of_getElem? (i := 964) (by decide +kernel)) (by decide +kernel), nj_T0_in (List.mem_of_getElem? (i := 34) (by decide +kernel)) (by decide +kernel), nj_T0_in (List.mem_of_getElem? (i := 72) (by decide +kernel)) (by decide +kernel), nj_T0_in (List.mem_of_getElem? (i := 965) rfl) (by decide +kernel), by decide +kernel⟩
abbrev nb_Md_votes : ByteArray := prog_10_method_33_code
abbrev ny_Md_votes : MethodName := ⟨"NobodyJoinsModel", "votes", "(I)I"⟩
set_option maxRecDepth 100000 in
theorem my_Md_votes : nj_MV ny_Md_votes nb_Md_votes 2 (some .int) 1 := ⟨nj_T0_in (List.mem_of_getElem? (i := 968) (by decide +kernel)) (by decide +kernel), nj_T0_in (List.mem_of_getElem? (i := 35) (by decide +kernel)) (by decide +kernel), nj_T0_in (List.mem_of_getElem? (i := 72) (by decide +kernel)) (by decide +kernel), nj_T0_in (List.mem_of_getElem? (i := 969) rfl) (by decide +kernel), by decide +kernel⟩
abbrev nb_Md_likedBy : ByteArray := prog_10_method_42_code
abbrev ny_Md_likedBy : MethodName := ⟨"NobodyJoinsModel", "likedBy", "(I)I"⟩
set_option maxRecDepth 100000 in
theorem my_Md_likedBy : nj_MV ny_Md_likedBy nb_Md_likedBy 2 (some .int) 1 := ⟨nj_T0_in (List.mem_of_getElem? (i := 972) (by decide +kernel)) (by decide +kernel), nj_T0_in (List.mem_of_getElem? (i := 36) (by decide +kernel)) (by decide +kernel), nj_T0_in (List.mem_of_getElem? (i := 72) (by decide +kernel)) (by decide +kernel), nj_T0_in (List.mem_of_getElem? (i := 973) rfl) (by decide +kernel), by decide +kernel⟩
abbrev nb_Md_liking : ByteArray := prog_10_method_35_code
abbrev ny_Md_liking : MethodName := ⟨"NobodyJoinsModel", "liking", "(II)I"⟩
set_option maxRecDepth 100000 in
theorem my_Md_liking : nj_MV ny_Md_liking nb_Md_liking 5 (some .int) 2 := ⟨nj_T0_in (List.mem_of_getElem? (i := 976) (by decide +kernel)) (by decide +kernel), nj_T0_in (List.mem_of_getElem? (i := 37) (by decide +kernel)) (by decide +kernel), nj_T0_in (List.mem_of_getElem? (i := 72) (by decide +kernel)) (by decide +kernel), nj_T0_in (List.mem_of_getElem? (i := 977) rfl) (by decide +kernel), by decide +kernel⟩
abbrev nb_Md_likes : ByteArray := prog_10_method_32_code
abbrev ny_Md_likes : MethodName := ⟨"NobodyJoinsModel", "likes", "(II)Z"⟩
set_option maxRecDepth 100000 in
theorem my_Md_likes : nj_MV ny_Md_likes nb_Md_likes 3 (some .boolean) 2 := ⟨nj_T0_in (List.mem_of_getElem? (i := 980) (by decide +kernel)) (by decide +kernel), nj_T0_in (List.mem_of_getElem? (i := 38) (by decide +kernel)) (by decide +kernel), nj_T0_in (List.mem_of_getElem? (i := 72) (by decide +kernel)) (by decide +kernel), nj_T0_in (List.mem_of_getElem? (i := 981) rfl) (by decide +kernel), by decide +kernel⟩
abbrev nb_Md_mark : ByteArray := prog_10_method_46_code
abbrev ny_Md_mark : MethodName := ⟨"NobodyJoinsModel", "mark", "(II)I"⟩
set_option maxRecDepth 100000 in
theorem my_Md_mark : nj_MV ny_Md_mark nb_Md_mark 4 (some .int) 2 := ⟨nj_T0_in (List.mem_of_getElem? (i := 983) (by decide +kernel)) (by decide +kernel), nj_T0_in (List.mem_of_getElem? (i := 984) (by decide +kernel)) (by decide +kernel), nj_T0_in (List.mem_of_getElem? (i := 72) (by decide +kernel)) (by decide +kernel), nj_T0_in (List.mem_of_getElem? (i := 985) rfl) (by decide +kernel), by decide +kernel⟩
abbrev nb_Md_isOf : ByteArray := prog_10_method_45_code
abbrev ny_Md_isOf : MethodName := ⟨"NobodyJoinsModel", "isOf", "(II)Z"⟩
set_option maxRecDepth 100000 in
theorem my_Md_isOf : nj_MV ny_Md_isOf nb_Md_isOf 3 (some .boolean) 2 := ⟨nj_T0_in (List.mem_of_getElem? (i := 988) (by decide +kernel)) (by decide +kernel), nj_T0_in (List.mem_of_getElem? (i := 39) (by decide +kernel)) (by decide +kernel), nj_T0_in (List.mem_of_getElem? (i := 72) (by decide +kernel)) (by decide +kernel), nj_T0_in (List.mem_of_getElem? (i := 989) rfl) (by decide +kernel), by decide +kernel⟩
abbrev nb_Md_bits : ByteArray := prog_10_method_2_code
abbrev ny_Md_bits : MethodName := ⟨"NobodyJoinsModel", "bits", "(I)I"⟩
set_option maxRecDepth 100000 in
theorem my_Md_bits : nj_MS ny_Md_bits nb_Md_bits 3 (some .int) 1 := ⟨nj_T0_in (List.mem_of_getElem? (i := 991) (by decide +kernel)) (by decide +kernel), nj_T0_in (List.mem_of_getElem? (i := 72) (by decide +kernel)) (by decide +kernel), nj_T0_in (List.mem_of_getElem? (i := 992) rfl) (by decide +kernel), by decide +kernel⟩
abbrev nb_Md_rule : ByteArray := prog_10_method_47_code
abbrev ny_Md_rule : MethodName := ⟨"NobodyJoinsModel", "rule", "(I)I"⟩
set_option maxRecDepth 100000 in
theorem my_Md_rule : nj_MV ny_Md_rule nb_Md_rule 3 (some .int) 1 := ⟨nj_T0_in (List.mem_of_getElem? (i := 994) (by decide +kernel)) (by decide +kernel), nj_T0_in (List.mem_of_getElem? (i := 995) (by decide +kernel)) (by decide +kernel), nj_T0_in (List.mem_of_getElem? (i := 72) (by decide +kernel)) (by decide +kernel), nj_T0_in (List.mem_of_getElem? (i := 996) rfl) (by decide +kernel), by decide +kernel⟩
abbrev nb_Md_oust : ByteArray := prog_10_method_50_code
abbrev ny_Md_oust : MethodName := ⟨"NobodyJoinsModel", "oust", "(I)I"⟩
set_option maxRecDepth 100000 in
theorem my_Md_oust : nj_MV ny_Md_oust nb_Md_oust 2 (some .int) 1 := ⟨nj_T0_in (List.mem_of_getElem? (i := 998) (by decide +kernel)) (by decide +kernel), nj_T0_in (List.mem_of_getElem? (i := 999) (by decide +kernel)) (by decide +kernel), nj_T0_in (List.mem_of_getElem? (i := 72) (by decide +kernel)) (by decide +kernel), nj_T0_in (List.mem_of_getElem? (i := 1000) rfl) (by decide +kernel), by decide +kernel⟩
abbrev nb_Md_outs : ByteArray := prog_10_method_40_code
abbrev ny_Md_outs : MethodName := ⟨"NobodyJoinsModel", "outs", "(I)I"⟩
set_option maxRecDepth 100000 in
theorem my_Md_outs : nj_MV ny_Md_outs nb_Md_outs 4 (some .int) 1 := ⟨nj_T0_in (List.mem_of_getElem? (i := 1003) (by decide +kernel)) (by decide +kernel), nj_T0_in (List.mem_of_getElem? (i := 40) (by decide +kernel)) (by decide +kernel), nj_T0_in (List.mem_of_getElem? (i := 72) (by decide +kernel)) (by decide +kernel), nj_T0_in (List.mem_of_getElem? (i := 1004) rfl) (by decide +kernel), by decide +kernel⟩
abbrev nb_Md_isOut : ByteArray := prog_10_method_39_code
abbrev ny_Md_isOut : MethodName := ⟨"NobodyJoinsModel", "isOut", "(III)Z"⟩
set_option maxRecDepth 100000 in
theorem my_Md_isOut : nj_MV ny_Md_isOut nb_Md_isOut 8 (some .boolean) 3 := ⟨nj_T0_in (List.mem_of_getElem? (i := 1007) (by decide +kernel)) (by decide +kernel), nj_T0_in (List.mem_of_getElem? (i := 41) (by decide +kernel)) (by decide +kernel), nj_T0_in (List.mem_of_getElem? (i := 72) (by decide +kernel)) (by decide +kernel), nj_T0_in (List.mem_of_getElem? (i := 1008) rfl) (by decide +kernel), by decide +kernel⟩
abbrev nb_Md_ofKind : ByteArray := prog_10_method_38_code
abbrev ny_Md_ofKind : MethodName := ⟨"NobodyJoinsModel", "ofKind", "(II)I"⟩
set_option maxRecDepth 100000 in
theorem my_Md_ofKind : nj_MV ny_Md_ofKind nb_Md_ofKind 5 (some .int) 2 := ⟨nj_T0_in (List.mem_of_getElem? (i := 1011) (by decide +kernel)) (by decide +kernel), nj_T0_in (List.mem_of_getElem? (i := 42) (by decide +kernel)) (by decide +kernel), nj_T0_in (List.mem_of_getElem? (i := 72) (by decide +kernel)) (by decide +kernel), nj_T0_in (List.mem_of_getElem? (i := 1012) rfl) (by decide +kernel), by decide +kernel⟩
abbrev nb_Md_isAgainst : ByteArray := prog_10_method_37_code
abbrev ny_Md_isAgainst : MethodName := ⟨"NobodyJoinsModel", "isAgainst", "(III)Z"⟩
set_option maxRecDepth 100000 in
theorem my_Md_isAgainst : nj_MV ny_Md_isAgainst nb_Md_isAgainst 6 (some .boolean) 3 := ⟨nj_T0_in (List.mem_of_getElem? (i := 1015) (by decide +kernel)) (by decide +kernel), nj_T0_in (List.mem_of_getElem? (i := 43) (by decide +kernel)) (by decide +kernel), nj_T0_in (List.mem_of_getElem? (i := 72) (by decide +kernel)) (by decide +kernel), nj_T0_in (List.mem_of_getElem? (i := 1016) rfl) (by decide +kernel), by decide +kernel⟩
abbrev nb_Md_yesFor : ByteArray := prog_10_method_36_code
abbrev ny_Md_yesFor : MethodName := ⟨"NobodyJoinsModel", "yesFor", "(II)I"⟩
set_option maxRecDepth 100000 in
theorem my_Md_yesFor : nj_MV ny_Md_yesFor nb_Md_yesFor 3 (some .int) 2 := ⟨nj_T0_in (List.mem_of_getElem? (i := 1019) (by decide +kernel)) (by decide +kernel), nj_T0_in (List.mem_of_getElem? (i := 44) (by decide +kernel)) (by decide +kernel), nj_T0_in (List.mem_of_getElem? (i := 72) (by decide +kernel)) (by decide +kernel), nj_T0_in (List.mem_of_getElem? (i := 1020) rfl) (by decide +kernel), by decide +kernel⟩
abbrev nb_Md_votesOf : ByteArray := prog_10_method_34_code
abbrev ny_Md_votesOf : MethodName := ⟨"NobodyJoinsModel", "votesOf", "(I)I"⟩
set_option maxRecDepth 100000 in
theorem my_Md_votesOf : nj_MV ny_Md_votesOf nb_Md_votesOf 4 (some .int) 1 := ⟨nj_T0_in (List.mem_of_getElem? (i := 1023) (by decide +kernel)) (by decide +kernel), nj_T0_in (List.mem_of_getElem? (i := 45) (by decide +kernel)) (by decide +kernel), nj_T0_in (List.mem_of_getElem? (i := 72) (by decide +kernel)) (by decide +kernel), nj_T0_in (List.mem_of_getElem? (i := 1024) rfl) (by decide +kernel), by decide +kernel⟩
abbrev nb_Md_doTurn : ByteArray := prog_10_method_49_code
abbrev ny_Md_doTurn : MethodName := ⟨"NobodyJoinsModel", "doTurn", "(I)I"⟩
set_option maxRecDepth 100000 in
theorem my_Md_doTurn : nj_MV ny_Md_doTurn nb_Md_doTurn 2 (some .int) 1 := ⟨nj_T0_in (List.mem_of_getElem? (i := 1027) (by decide +kernel)) (by decide +kernel), nj_T0_in (List.mem_of_getElem? (i := 46) (by decide +kernel)) (by decide +kernel), nj_T0_in (List.mem_of_getElem? (i := 72) (by decide +kernel)) (by decide +kernel), nj_T0_in (List.mem_of_getElem? (i := 1028) rfl) (by decide +kernel), by decide +kernel⟩
abbrev nb_Md_keepPast : ByteArray := prog_10_method_48_code
abbrev ny_Md_keepPast : MethodName := ⟨"NobodyJoinsModel", "keepPast", "()V"⟩
set_option maxRecDepth 100000 in
theorem my_Md_keepPast : nj_MV ny_Md_keepPast nb_Md_keepPast 2 none 0 := ⟨nj_T0_in (List.mem_of_getElem? (i := 1031) (by decide +kernel)) (by decide +kernel), nj_T0_in (List.mem_of_getElem? (i := 47) (by decide +kernel)) (by decide +kernel), nj_T0_in (List.mem_of_getElem? (i := 72) (by decide +kernel)) (by decide +kernel), nj_T0_in (List.mem_of_getElem? (i := 1032) rfl) (by decide +kernel), by decide +kernel⟩
abbrev nb_Md_join : ByteArray := prog_10_method_51_code
abbrev ny_Md_join : MethodName := ⟨"NobodyJoinsModel", "join", "(I)I"⟩
set_option maxRecDepth 100000 in
theorem my_Md_join : nj_MV ny_Md_join nb_Md_join 2 (some .int) 1 := ⟨nj_T0_in (List.mem_of_getElem? (i := 1034) (by decide +kernel)) (by decide +kernel), nj_T0_in (List.mem_of_getElem? (i := 1035) (by decide +kernel)) (by decide +kernel), nj_T0_in (List.mem_of_getElem? (i := 72) (by decide +kernel)) (by decide +kernel), nj_T0_in (List.mem_of_getElem? (i := 1036) rfl) (by decide +kernel), by decide +kernel⟩
abbrev nb_Md_mayJoin : ByteArray := prog_10_method_41_code
abbrev ny_Md_mayJoin : MethodName := ⟨"NobodyJoinsModel", "mayJoin", "(I)Z"⟩
set_option maxRecDepth 100000 in
theorem my_Md_mayJoin : nj_MV ny_Md_mayJoin nb_Md_mayJoin 2 (some .boolean) 1 := ⟨nj_T0_in (List.mem_of_getElem? (i := 1039) (by decide +kernel)) (by decide +kernel), nj_T0_in (List.mem_of_getElem? (i := 48) (by decide +kernel)) (by decide +kernel), nj_T0_in (List.mem_of_getElem? (i := 72) (by decide +kernel)) (by decide +kernel), nj_T0_in (List.mem_of_getElem? (i := 1040) rfl) (by decide +kernel), by decide +kernel⟩
abbrev nb_Md_isIn : ByteArray := prog_10_method_31_code
abbrev ny_Md_isIn : MethodName := ⟨"NobodyJoinsModel", "isIn", "(I)Z"⟩
set_option maxRecDepth 100000 in
theorem my_Md_isIn : nj_MV ny_Md_isIn nb_Md_isIn 2 (some .boolean) 1 := ⟨nj_T0_in (List.mem_of_getElem? (i := 1043) (by decide +kernel)) (by decide +kernel), nj_T0_in (List.mem_of_getElem? (i := 49) (by decide +kernel)) (by decide +kernel), nj_T0_in (List.mem_of_getElem? (i := 72) (by decide +kernel)) (by decide +kernel), nj_T0_in (List.mem_of_getElem? (i := 1044) rfl) (by decide +kernel), by decide +kernel⟩
abbrev nb_Md_fee : ByteArray := prog_10_method_53_code
abbrev ny_Md_fee : MethodName := ⟨"NobodyJoinsModel", "fee", "()I"⟩
set_option maxRecDepth 100000 in
theorem my_Md_fee : nj_MV ny_Md_fee nb_Md_fee 1 (some .int) 0 := ⟨nj_T0_in (List.mem_of_getElem? (i := 1046) (by decide +kernel)) (by decide +kernel), nj_T0_in (List.mem_of_getElem? (i := 1047) (by decide +kernel)) (by decide +kernel), nj_T0_in (List.mem_of_getElem? (i := 72) (by decide +kernel)) (by decide +kernel), nj_T0_in (List.mem_of_getElem? (i := 1048) rfl) (by decide +kernel), by decide +kernel⟩
abbrev nb_Md_doFee : ByteArray := prog_10_method_52_code
abbrev ny_Md_doFee : MethodName := ⟨"NobodyJoinsModel", "doFee", "()I"⟩
set_option maxRecDepth 100000 in
theorem my_Md_doFee : nj_MV ny_Md_doFee nb_Md_doFee 2 (some .int) 0 := ⟨nj_T0_in (List.mem_of_getElem? (i := 1051) (by decide +kernel)) (by decide +kernel), nj_T0_in (List.mem_of_getElem? (i := 50) (by decide +kernel)) (by decide +kernel), nj_T0_in (List.mem_of_getElem? (i := 72) (by decide +kernel)) (by decide +kernel), nj_T0_in (List.mem_of_getElem? (i := 1052) rfl) (by decide +kernel), by decide +kernel⟩
abbrev nb_Md_grudge : ByteArray := prog_10_method_56_code
abbrev ny_Md_grudge : MethodName := ⟨"NobodyJoinsModel", "grudge", "(II)I"⟩
set_option maxRecDepth 100000 in
theorem my_Md_grudge : nj_MV ny_Md_grudge nb_Md_grudge 3 (some .int) 2 := ⟨nj_T0_in (List.mem_of_getElem? (i := 1054) (by decide +kernel)) (by decide +kernel), nj_T0_in (List.mem_of_getElem? (i := 1055) (by decide +kernel)) (by decide +kernel), nj_T0_in (List.mem_of_getElem? (i := 72) (by decide +kernel)) (by decide +kernel), nj_T0_in (List.mem_of_getElem? (i := 1056) rfl) (by decide +kernel), by decide +kernel⟩
abbrev nb_Md_areTwo : ByteArray := prog_10_method_54_code
abbrev ny_Md_areTwo : MethodName := ⟨"NobodyJoinsModel", "areTwo", "(II)Z"⟩
set_option maxRecDepth 100000 in
theorem my_Md_areTwo : nj_MV ny_Md_areTwo nb_Md_areTwo 3 (some .boolean) 2 := ⟨nj_T0_in (List.mem_of_getElem? (i := 1059) (by decide +kernel)) (by decide +kernel), nj_T0_in (List.mem_of_getElem? (i := 51) (by decide +kernel)) (by decide +kernel), nj_T0_in (List.mem_of_getElem? (i := 72) (by decide +kernel)) (by decide +kernel), nj_T0_in (List.mem_of_getElem? (i := 1060) rfl) (by decide +kernel), by decide +kernel⟩
abbrev nb_Md_doGrudge : ByteArray := prog_10_method_55_code
abbrev ny_Md_doGrudge : MethodName := ⟨"NobodyJoinsModel", "doGrudge", "(II)I"⟩
set_option maxRecDepth 100000 in
theorem my_Md_doGrudge : nj_MV ny_Md_doGrudge nb_Md_doGrudge 3 (some .int) 2 := ⟨nj_T0_in (List.mem_of_getElem? (i := 1063) (by decide +kernel)) (by decide +kernel), nj_T0_in (List.mem_of_getElem? (i := 52) (by decide +kernel)) (by decide +kernel), nj_T0_in (List.mem_of_getElem? (i := 72) (by decide +kernel)) (by decide +kernel), nj_T0_in (List.mem_of_getElem? (i := 1064) rfl) (by decide +kernel), by decide +kernel⟩
abbrev nb_Md_undo : ByteArray := prog_10_method_57_code
abbrev ny_Md_undo : MethodName := ⟨"NobodyJoinsModel", "undo", "(I)I"⟩
set_option maxRecDepth 100000 in
theorem my_Md_undo : nj_MV ny_Md_undo nb_Md_undo 4 (some .int) 1 := ⟨nj_T0_in (List.mem_of_getElem? (i := 1066) (by decide +kernel)) (by decide +kernel), nj_T0_in (List.mem_of_getElem? (i := 1067) (by decide +kernel)) (by decide +kernel), nj_T0_in (List.mem_of_getElem? (i := 72) (by decide +kernel)) (by decide +kernel), nj_T0_in (List.mem_of_getElem? (i := 1068) rfl) (by decide +kernel), by decide +kernel⟩
abbrev nb_Md_keep : ByteArray := prog_10_method_59_code
abbrev ny_Md_keep : MethodName := ⟨"NobodyJoinsModel", "keep", "(I)I"⟩
set_option maxRecDepth 100000 in
theorem my_Md_keep : nj_MV ny_Md_keep nb_Md_keep 2 (some .int) 1 := ⟨nj_T0_in (List.mem_of_getElem? (i := 1070) (by decide +kernel)) (by decide +kernel), nj_T0_in (List.mem_of_getElem? (i := 1071) (by decide +kernel)) (by decide +kernel), nj_T0_in (List.mem_of_getElem? (i := 72) (by decide +kernel)) (by decide +kernel), nj_T0_in (List.mem_of_getElem? (i := 1072) rfl) (by decide +kernel), by decide +kernel⟩
abbrev nb_Md_copyClub : ByteArray := prog_10_method_58_code
abbrev ny_Md_copyClub : MethodName := ⟨"NobodyJoinsModel", "copyClub", "(II)V"⟩
set_option maxRecDepth 100000 in
theorem my_Md_copyClub : nj_MV ny_Md_copyClub nb_Md_copyClub 4 none 2 := ⟨nj_T0_in (List.mem_of_getElem? (i := 1076) (by decide +kernel)) (by decide +kernel), nj_T0_in (List.mem_of_getElem? (i := 53) (by decide +kernel)) (by decide +kernel), nj_T0_in (List.mem_of_getElem? (i := 72) (by decide +kernel)) (by decide +kernel), nj_T0_in (List.mem_of_getElem? (i := 1077) rfl) (by decide +kernel), by decide +kernel⟩
abbrev nb_Md_on : ByteArray := prog_10_method_60_code
abbrev ny_Md_on : MethodName := ⟨"NobodyJoinsModel", "on", "(I)I"⟩
set_option maxRecDepth 100000 in
theorem my_Md_on : nj_MV ny_Md_on nb_Md_on 2 (some .int) 1 := ⟨nj_T0_in (List.mem_of_getElem? (i := 1079) (by decide +kernel)) (by decide +kernel), nj_T0_in (List.mem_of_getElem? (i := 1080) (by decide +kernel)) (by decide +kernel), nj_T0_in (List.mem_of_getElem? (i := 72) (by decide +kernel)) (by decide +kernel), nj_T0_in (List.mem_of_getElem? (i := 1081) rfl) (by decide +kernel), by decide +kernel⟩
abbrev nb_Md_yes : ByteArray := prog_10_method_61_code
abbrev ny_Md_yes : MethodName := ⟨"NobodyJoinsModel", "yes", "(I)I"⟩
set_option maxRecDepth 100000 in
theorem my_Md_yes : nj_MV ny_Md_yes nb_Md_yes 3 (some .int) 1 := ⟨nj_T0_in (List.mem_of_getElem? (i := 1083) (by decide +kernel)) (by decide +kernel), nj_T0_in (List.mem_of_getElem? (i := 1084) (by decide +kernel)) (by decide +kernel), nj_T0_in (List.mem_of_getElem? (i := 72) (by decide +kernel)) (by decide +kernel), nj_T0_in (List.mem_of_getElem? (i := 1085) rfl) (by decide +kernel), by decide +kernel⟩
abbrev nb_Md_can : ByteArray := prog_10_method_62_code
abbrev ny_Md_can : MethodName := ⟨"NobodyJoinsModel", "can", "()I"⟩
set_option maxRecDepth 100000 in
theorem my_Md_can : nj_MV ny_Md_can nb_Md_can 2 (some .int) 0 := ⟨nj_T0_in (List.mem_of_getElem? (i := 1087) (by decide +kernel)) (by decide +kernel), nj_T0_in (List.mem_of_getElem? (i := 1088) (by decide +kernel)) (by decide +kernel), nj_T0_in (List.mem_of_getElem? (i := 72) (by decide +kernel)) (by decide +kernel), nj_T0_in (List.mem_of_getElem? (i := 1089) rfl) (by decide +kernel), by decide +kernel⟩
abbrev nb_Md_swing : ByteArray := prog_10_method_63_code
abbrev ny_Md_swing : MethodName := ⟨"NobodyJoinsModel", "swing", "(I)I"⟩
set_option maxRecDepth 100000 in
theorem my_Md_swing : nj_MV ny_Md_swing nb_Md_swing 5 (some .int) 1 := ⟨nj_T0_in (List.mem_of_getElem? (i := 1091) (by decide +kernel)) (by decide +kernel), nj_T0_in (List.mem_of_getElem? (i := 1092) (by decide +kernel)) (by decide +kernel), nj_T0_in (List.mem_of_getElem? (i := 72) (by decide +kernel)) (by decide +kernel), nj_T0_in (List.mem_of_getElem? (i := 1093) rfl) (by decide +kernel), by decide +kernel⟩
abbrev nb_Md_rules : ByteArray := prog_10_method_64_code
abbrev ny_Md_rules : MethodName := ⟨"NobodyJoinsModel", "rules", "(I)I"⟩
set_option maxRecDepth 100000 in
theorem my_Md_rules : nj_MV ny_Md_rules nb_Md_rules 4 (some .int) 1 := ⟨nj_T0_in (List.mem_of_getElem? (i := 1095) (by decide +kernel)) (by decide +kernel), nj_T0_in (List.mem_of_getElem? (i := 1096) (by decide +kernel)) (by decide +kernel), nj_T0_in (List.mem_of_getElem? (i := 72) (by decide +kernel)) (by decide +kernel), nj_T0_in (List.mem_of_getElem? (i := 1097) rfl) (by decide +kernel), by decide +kernel⟩
abbrev nb_Md_longest : ByteArray := prog_10_method_66_code
abbrev ny_Md_longest : MethodName := ⟨"NobodyJoinsModel", "longest", "(I)I"⟩
set_option maxRecDepth 100000 in
theorem my_Md_longest : nj_MV ny_Md_longest nb_Md_longest 6 (some .int) 1 := ⟨nj_T0_in (List.mem_of_getElem? (i := 1099) (by decide +kernel)) (by decide +kernel), nj_T0_in (List.mem_of_getElem? (i := 1100) (by decide +kernel)) (by decide +kernel), nj_T0_in (List.mem_of_getElem? (i := 72) (by decide +kernel)) (by decide +kernel), nj_T0_in (List.mem_of_getElem? (i := 1101) rfl) (by decide +kernel), by decide +kernel⟩
abbrev nb_Md_layOuts : ByteArray := prog_10_method_65_code
abbrev ny_Md_layOuts : MethodName := ⟨"NobodyJoinsModel", "layOuts", "()V"⟩
set_option maxRecDepth 100000 in
theorem my_Md_layOuts : nj_MV ny_Md_layOuts nb_Md_layOuts 4 none 0 := ⟨nj_T0_in (List.mem_of_getElem? (i := 1104) (by decide +kernel)) (by decide +kernel), nj_T0_in (List.mem_of_getElem? (i := 54) (by decide +kernel)) (by decide +kernel), nj_T0_in (List.mem_of_getElem? (i := 72) (by decide +kernel)) (by decide +kernel), nj_T0_in (List.mem_of_getElem? (i := 1105) rfl) (by decide +kernel), by decide +kernel⟩
abbrev nb_Md_ways : ByteArray := prog_10_method_68_code
abbrev ny_Md_ways : MethodName := ⟨"NobodyJoinsModel", "ways", "(I)I"⟩
set_option maxRecDepth 100000 in
theorem my_Md_ways : nj_MV ny_Md_ways nb_Md_ways 5 (some .int) 1 := ⟨nj_T0_in (List.mem_of_getElem? (i := 1107) (by decide +kernel)) (by decide +kernel), nj_T0_in (List.mem_of_getElem? (i := 1108) (by decide +kernel)) (by decide +kernel), nj_T0_in (List.mem_of_getElem? (i := 72) (by decide +kernel)) (by decide +kernel), nj_T0_in (List.mem_of_getElem? (i := 1109) rfl) (by decide +kernel), by decide +kernel⟩
abbrev nb_Md_tellMany : ByteArray := prog_10_method_67_code
abbrev ny_Md_tellMany : MethodName := ⟨"NobodyJoinsModel", "tellMany", "(J)I"⟩
set_option maxRecDepth 100000 in
theorem my_Md_tellMany : nj_MV ny_Md_tellMany nb_Md_tellMany 3 (some .int) 1 := ⟨nj_T0_in (List.mem_of_getElem? (i := 1112) (by decide +kernel)) (by decide +kernel), nj_T0_in (List.mem_of_getElem? (i := 55) (by decide +kernel)) (by decide +kernel), nj_T0_in (List.mem_of_getElem? (i := 72) (by decide +kernel)) (by decide +kernel), nj_T0_in (List.mem_of_getElem? (i := 1113) rfl) (by decide +kernel), by decide +kernel⟩
abbrev nb_Md_alone : ByteArray := prog_10_method_69_code
abbrev ny_Md_alone : MethodName := ⟨"NobodyJoinsModel", "alone", "()I"⟩
set_option maxRecDepth 100000 in
theorem my_Md_alone : nj_MV ny_Md_alone nb_Md_alone 3 (some .int) 0 := ⟨nj_T0_in (List.mem_of_getElem? (i := 1115) (by decide +kernel)) (by decide +kernel), nj_T0_in (List.mem_of_getElem? (i := 1116) (by decide +kernel)) (by decide +kernel), nj_T0_in (List.mem_of_getElem? (i := 72) (by decide +kernel)) (by decide +kernel), nj_T0_in (List.mem_of_getElem? (i := 1117) rfl) (by decide +kernel), by decide +kernel⟩
abbrev nb_Md_stands : ByteArray := prog_10_method_70_code
abbrev ny_Md_stands : MethodName := ⟨"NobodyJoinsModel", "stands", "()I"⟩
set_option maxRecDepth 100000 in
theorem my_Md_stands : nj_MV ny_Md_stands nb_Md_stands 4 (some .int) 0 := ⟨nj_T0_in (List.mem_of_getElem? (i := 1119) (by decide +kernel)) (by decide +kernel), nj_T0_in (List.mem_of_getElem? (i := 1120) (by decide +kernel)) (by decide +kernel), nj_T0_in (List.mem_of_getElem? (i := 72) (by decide +kernel)) (by decide +kernel), nj_T0_in (List.mem_of_getElem? (i := 1121) rfl) (by decide +kernel), by decide +kernel⟩
abbrev nb_Md_run : ByteArray := prog_10_method_72_code
abbrev ny_Md_run : MethodName := ⟨"NobodyJoinsModel", "run", "(I)I"⟩
set_option maxRecDepth 100000 in
theorem my_Md_run : nj_MV ny_Md_run nb_Md_run 6 (some .int) 1 := ⟨nj_T0_in (List.mem_of_getElem? (i := 1123) (by decide +kernel)) (by decide +kernel), nj_T0_in (List.mem_of_getElem? (i := 1124) (by decide +kernel)) (by decide +kernel), nj_T0_in (List.mem_of_getElem? (i := 72) (by decide +kernel)) (by decide +kernel), nj_T0_in (List.mem_of_getElem? (i := 1125) rfl) (by decide +kernel), by decide +kernel⟩
abbrev nb_Md_noRow : ByteArray := prog_10_method_71_code
abbrev ny_Md_noRow : MethodName := ⟨"NobodyJoinsModel", "noRow", "(II)I"⟩
set_option maxRecDepth 100000 in
theorem my_Md_noRow : nj_MV ny_Md_noRow nb_Md_noRow 3 (some .int) 2 := ⟨nj_T0_in (List.mem_of_getElem? (i := 1128) (by decide +kernel)) (by decide +kernel), nj_T0_in (List.mem_of_getElem? (i := 56) (by decide +kernel)) (by decide +kernel), nj_T0_in (List.mem_of_getElem? (i := 72) (by decide +kernel)) (by decide +kernel), nj_T0_in (List.mem_of_getElem? (i := 1129) rfl) (by decide +kernel), by decide +kernel⟩
abbrev nb_Md_splits : ByteArray := prog_10_method_73_code
abbrev ny_Md_splits : MethodName := ⟨"NobodyJoinsModel", "splits", "()I"⟩
set_option maxRecDepth 100000 in
theorem my_Md_splits : nj_MV ny_Md_splits nb_Md_splits 5 (some .int) 0 := ⟨nj_T0_in (List.mem_of_getElem? (i := 1131) (by decide +kernel)) (by decide +kernel), nj_T0_in (List.mem_of_getElem? (i := 1132) (by decide +kernel)) (by decide +kernel), nj_T0_in (List.mem_of_getElem? (i := 72) (by decide +kernel)) (by decide +kernel), nj_T0_in (List.mem_of_getElem? (i := 1133) rfl) (by decide +kernel), by decide +kernel⟩
abbrev nb_Md_peace : ByteArray := prog_10_method_76_code
abbrev ny_Md_peace : MethodName := ⟨"NobodyJoinsModel", "peace", "()I"⟩
set_option maxRecDepth 100000 in
theorem my_Md_peace : nj_MV ny_Md_peace nb_Md_peace 5 (some .int) 0 := ⟨nj_T0_in (List.mem_of_getElem? (i := 1135) (by decide +kernel)) (by decide +kernel), nj_T0_in (List.mem_of_getElem? (i := 1136) (by decide +kernel)) (by decide +kernel), nj_T0_in (List.mem_of_getElem? (i := 72) (by decide +kernel)) (by decide +kernel), nj_T0_in (List.mem_of_getElem? (i := 1137) rfl) (by decide +kernel), by decide +kernel⟩
abbrev nb_Md_isGrudge : ByteArray := prog_10_method_74_code
abbrev ny_Md_isGrudge : MethodName := ⟨"NobodyJoinsModel", "isGrudge", "(I)Z"⟩
set_option maxRecDepth 100000 in
theorem my_Md_isGrudge : nj_MV ny_Md_isGrudge nb_Md_isGrudge 2 (some .boolean) 1 := ⟨nj_T0_in (List.mem_of_getElem? (i := 1140) (by decide +kernel)) (by decide +kernel), nj_T0_in (List.mem_of_getElem? (i := 57) (by decide +kernel)) (by decide +kernel), nj_T0_in (List.mem_of_getElem? (i := 72) (by decide +kernel)) (by decide +kernel), nj_T0_in (List.mem_of_getElem? (i := 1141) rfl) (by decide +kernel), by decide +kernel⟩
abbrev nb_Md_turnLike : ByteArray := prog_10_method_75_code
abbrev ny_Md_turnLike : MethodName := ⟨"NobodyJoinsModel", "turnLike", "(I)V"⟩
set_option maxRecDepth 100000 in
theorem my_Md_turnLike : nj_MV ny_Md_turnLike nb_Md_turnLike 2 none 1 := ⟨nj_T0_in (List.mem_of_getElem? (i := 1144) (by decide +kernel)) (by decide +kernel), nj_T0_in (List.mem_of_getElem? (i := 58) (by decide +kernel)) (by decide +kernel), nj_T0_in (List.mem_of_getElem? (i := 72) (by decide +kernel)) (by decide +kernel), nj_T0_in (List.mem_of_getElem? (i := 1145) rfl) (by decide +kernel), by decide +kernel⟩
abbrev nb_Md_power : ByteArray := prog_10_method_79_code
abbrev ny_Md_power : MethodName := ⟨"NobodyJoinsModel", "power", "(I)I"⟩
set_option maxRecDepth 100000 in
theorem my_Md_power : nj_MV ny_Md_power nb_Md_power 9 (some .int) 1 := ⟨nj_T0_in (List.mem_of_getElem? (i := 1147) (by decide +kernel)) (by decide +kernel), nj_T0_in (List.mem_of_getElem? (i := 1148) (by decide +kernel)) (by decide +kernel), nj_T0_in (List.mem_of_getElem? (i := 72) (by decide +kernel)) (by decide +kernel), nj_T0_in (List.mem_of_getElem? (i := 1149) rfl) (by decide +kernel), by decide +kernel⟩
abbrev nb_Md_orders : ByteArray := prog_10_method_77_code
abbrev ny_Md_orders : MethodName := ⟨"NobodyJoinsModel", "orders", "(I)I"⟩
set_option maxRecDepth 100000 in
theorem my_Md_orders : nj_MS ny_Md_orders nb_Md_orders 3 (some .int) 1 := ⟨nj_T0_in (List.mem_of_getElem? (i := 1151) (by decide +kernel)) (by decide +kernel), nj_T0_in (List.mem_of_getElem? (i := 72) (by decide +kernel)) (by decide +kernel), nj_T0_in (List.mem_of_getElem? (i := 1152) rfl) (by decide +kernel), by decide +kernel⟩
abbrev nb_Md_tellParts : ByteArray := prog_10_method_78_code
abbrev ny_Md_tellParts : MethodName := ⟨"NobodyJoinsModel", "tellParts", "(JJ)I"⟩
set_option maxRecDepth 100000 in
theorem my_Md_tellParts : nj_MV ny_Md_tellParts nb_Md_tellParts 11 (some .int) 2 := ⟨nj_T0_in (List.mem_of_getElem? (i := 1155) (by decide +kernel)) (by decide +kernel), nj_T0_in (List.mem_of_getElem? (i := 59) (by decide +kernel)) (by decide +kernel), nj_T0_in (List.mem_of_getElem? (i := 72) (by decide +kernel)) (by decide +kernel), nj_T0_in (List.mem_of_getElem? (i := 1156) rfl) (by decide +kernel), by decide +kernel⟩
abbrev nb_Md_share : ByteArray := prog_10_method_81_code
abbrev ny_Md_share : MethodName := ⟨"NobodyJoinsModel", "share", "(I)I"⟩
set_option maxRecDepth 100000 in
theorem my_Md_share : nj_MV ny_Md_share nb_Md_share 4 (some .int) 1 := ⟨nj_T0_in (List.mem_of_getElem? (i := 1158) (by decide +kernel)) (by decide +kernel), nj_T0_in (List.mem_of_getElem? (i := 1159) (by decide +kernel)) (by decide +kernel), nj_T0_in (List.mem_of_getElem? (i := 72) (by decide +kernel)) (by decide +kernel), nj_T0_in (List.mem_of_getElem? (i := 1160) rfl) (by decide +kernel), by decide +kernel⟩
abbrev nb_Md_shareOf : ByteArray := prog_10_method_80_code
abbrev ny_Md_shareOf : MethodName := ⟨"NobodyJoinsModel", "shareOf", "(I)I"⟩
set_option maxRecDepth 100000 in
theorem my_Md_shareOf : nj_MV ny_Md_shareOf nb_Md_shareOf 4 (some .int) 1 := ⟨nj_T0_in (List.mem_of_getElem? (i := 1163) (by decide +kernel)) (by decide +kernel), nj_T0_in (List.mem_of_getElem? (i := 60) (by decide +kernel)) (by decide +kernel), nj_T0_in (List.mem_of_getElem? (i := 72) (by decide +kernel)) (by decide +kernel), nj_T0_in (List.mem_of_getElem? (i := 1164) rfl) (by decide +kernel), by decide +kernel⟩
abbrev nb_Md_secrets : ByteArray := prog_10_method_82_code
abbrev ny_Md_secrets : MethodName := ⟨"NobodyJoinsModel", "secrets", "()I"⟩
set_option maxRecDepth 100000 in
theorem my_Md_secrets : nj_MV ny_Md_secrets nb_Md_secrets 2 (some .int) 0 := ⟨nj_T0_in (List.mem_of_getElem? (i := 1166) (by decide +kernel)) (by decide +kernel), nj_T0_in (List.mem_of_getElem? (i := 1167) (by decide +kernel)) (by decide +kernel), nj_T0_in (List.mem_of_getElem? (i := 72) (by decide +kernel)) (by decide +kernel), nj_T0_in (List.mem_of_getElem? (i := 1168) rfl) (by decide +kernel), by decide +kernel⟩
abbrev nb_Md_told : ByteArray := prog_10_method_83_code
abbrev ny_Md_told : MethodName := ⟨"NobodyJoinsModel", "told", "(I)I"⟩
set_option maxRecDepth 100000 in
theorem my_Md_told : nj_MV ny_Md_told nb_Md_told 6 (some .int) 1 := ⟨nj_T0_in (List.mem_of_getElem? (i := 1170) (by decide +kernel)) (by decide +kernel), nj_T0_in (List.mem_of_getElem? (i := 1171) (by decide +kernel)) (by decide +kernel), nj_T0_in (List.mem_of_getElem? (i := 72) (by decide +kernel)) (by decide +kernel), nj_T0_in (List.mem_of_getElem? (i := 1172) rfl) (by decide +kernel), by decide +kernel⟩
abbrev nb_Md_minutes : ByteArray := prog_10_method_85_code
abbrev ny_Md_minutes : MethodName := ⟨"NobodyJoinsModel", "minutes", "(I)I"⟩
set_option maxRecDepth 100000 in
theorem my_Md_minutes : nj_MV ny_Md_minutes nb_Md_minutes 10 (some .int) 1 := ⟨nj_T0_in (List.mem_of_getElem? (i := 1174) (by decide +kernel)) (by decide +kernel), nj_T0_in (List.mem_of_getElem? (i := 1175) (by decide +kernel)) (by decide +kernel), nj_T0_in (List.mem_of_getElem? (i := 72) (by decide +kernel)) (by decide +kernel), nj_T0_in (List.mem_of_getElem? (i := 1176) rfl) (by decide +kernel), by decide +kernel⟩
abbrev nb_Md_likings : ByteArray := prog_10_method_84_code
abbrev ny_Md_likings : MethodName := ⟨"NobodyJoinsModel", "likings", "(II)I"⟩
set_option maxRecDepth 100000 in
theorem my_Md_likings : nj_MV ny_Md_likings nb_Md_likings 6 (some .int) 2 := ⟨nj_T0_in (List.mem_of_getElem? (i := 1179) (by decide +kernel)) (by decide +kernel), nj_T0_in (List.mem_of_getElem? (i := 61) (by decide +kernel)) (by decide +kernel), nj_T0_in (List.mem_of_getElem? (i := 72) (by decide +kernel)) (by decide +kernel), nj_T0_in (List.mem_of_getElem? (i := 1180) rfl) (by decide +kernel), by decide +kernel⟩
abbrev nb_Md_odds : ByteArray := prog_10_method_86_code
abbrev ny_Md_odds : MethodName := ⟨"NobodyJoinsModel", "odds", "(I)I"⟩
set_option maxRecDepth 100000 in
theorem my_Md_odds : nj_MV ny_Md_odds nb_Md_odds 8 (some .int) 1 := ⟨nj_T0_in (List.mem_of_getElem? (i := 1182) (by decide +kernel)) (by decide +kernel), nj_T0_in (List.mem_of_getElem? (i := 1183) (by decide +kernel)) (by decide +kernel), nj_T0_in (List.mem_of_getElem? (i := 72) (by decide +kernel)) (by decide +kernel), nj_T0_in (List.mem_of_getElem? (i := 1184) rfl) (by decide +kernel), by decide +kernel⟩
abbrev nb_Md_lots : ByteArray := prog_10_method_87_code
abbrev ny_Md_lots : MethodName := ⟨"NobodyJoinsModel", "lots", "(II)I"⟩
set_option maxRecDepth 100000 in
theorem my_Md_lots : nj_MV ny_Md_lots nb_Md_lots 8 (some .int) 2 := ⟨nj_T0_in (List.mem_of_getElem? (i := 1187) (by decide +kernel)) (by decide +kernel), nj_T0_in (List.mem_of_getElem? (i := 1188) (by decide +kernel)) (by decide +kernel), nj_T0_in (List.mem_of_getElem? (i := 72) (by decide +kernel)) (by decide +kernel), nj_T0_in (List.mem_of_getElem? (i := 1189) rfl) (by decide +kernel), by decide +kernel⟩
abbrev nb_Md_asked : ByteArray := prog_10_method_88_code
abbrev ny_Md_asked : MethodName := ⟨"NobodyJoinsModel", "asked", "()I"⟩
set_option maxRecDepth 100000 in
theorem my_Md_asked : nj_MV ny_Md_asked nb_Md_asked 1 (some .int) 0 := ⟨nj_T0_in (List.mem_of_getElem? (i := 1196) (by decide +kernel)) (by decide +kernel), nj_T0_in (List.mem_of_getElem? (i := 1197) (by decide +kernel)) (by decide +kernel), nj_T0_in (List.mem_of_getElem? (i := 72) (by decide +kernel)) (by decide +kernel), nj_T0_in (List.mem_of_getElem? (i := 1198) rfl) (by decide +kernel), by decide +kernel⟩
abbrev nb_Md_upper : ByteArray := prog_10_method_89_code
abbrev ny_Md_upper : MethodName := ⟨"NobodyJoinsModel", "upper", "()J"⟩
set_option maxRecDepth 100000 in
theorem my_Md_upper : nj_MV ny_Md_upper nb_Md_upper 1 (some .long) 0 := ⟨nj_T0_in (List.mem_of_getElem? (i := 1200) (by decide +kernel)) (by decide +kernel), nj_T0_in (List.mem_of_getElem? (i := 1201) (by decide +kernel)) (by decide +kernel), nj_T0_in (List.mem_of_getElem? (i := 72) (by decide +kernel)) (by decide +kernel), nj_T0_in (List.mem_of_getElem? (i := 1202) rfl) (by decide +kernel), by decide +kernel⟩
abbrev nb_Md_lower : ByteArray := prog_10_method_90_code
abbrev ny_Md_lower : MethodName := ⟨"NobodyJoinsModel", "lower", "()J"⟩
set_option maxRecDepth 100000 in
theorem my_Md_lower : nj_MV ny_Md_lower nb_Md_lower 1 (some .long) 0 := ⟨nj_T0_in (List.mem_of_getElem? (i := 1204) (by decide +kernel)) (by decide +kernel), nj_T0_in (List.mem_of_getElem? (i := 1205) (by decide +kernel)) (by decide +kernel), nj_T0_in (List.mem_of_getElem? (i := 72) (by decide +kernel)) (by decide +kernel), nj_T0_in (List.mem_of_getElem? (i := 1206) rfl) (by decide +kernel), by decide +kernel⟩
abbrev nb_Md_count : ByteArray := prog_10_method_94_code
abbrev ny_Md_count : MethodName := ⟨"NobodyJoinsModel", "count", "(I)I"⟩
set_option maxRecDepth 100000 in
theorem my_Md_count : nj_MV ny_Md_count nb_Md_count 2 (some .int) 1 := ⟨nj_T0_in (List.mem_of_getElem? (i := 1208) (by decide +kernel)) (by decide +kernel), nj_T0_in (List.mem_of_getElem? (i := 1209) (by decide +kernel)) (by decide +kernel), nj_T0_in (List.mem_of_getElem? (i := 72) (by decide +kernel)) (by decide +kernel), nj_T0_in (List.mem_of_getElem? (i := 1210) rfl) (by decide +kernel), by decide +kernel⟩
abbrev nb_Md_countOf : ByteArray := prog_10_method_93_code
abbrev ny_Md_countOf : MethodName := ⟨"NobodyJoinsModel", "countOf", "(I)I"⟩
set_option maxRecDepth 100000 in
theorem my_Md_countOf : nj_MV ny_Md_countOf nb_Md_countOf 2 (some .int) 1 := ⟨nj_T0_in (List.mem_of_getElem? (i := 1214) (by decide +kernel)) (by decide +kernel), nj_T0_in (List.mem_of_getElem? (i := 62) (by decide +kernel)) (by decide +kernel), nj_T0_in (List.mem_of_getElem? (i := 72) (by decide +kernel)) (by decide +kernel), nj_T0_in (List.mem_of_getElem? (i := 1215) rfl) (by decide +kernel), by decide +kernel⟩
abbrev nb_Md_presidents : ByteArray := prog_10_method_91_code
abbrev ny_Md_presidents : MethodName := ⟨"NobodyJoinsModel", "presidents", "()I"⟩
set_option maxRecDepth 100000 in
theorem my_Md_presidents : nj_MV ny_Md_presidents nb_Md_presidents 3 (some .int) 0 := ⟨nj_T0_in (List.mem_of_getElem? (i := 1218) (by decide +kernel)) (by decide +kernel), nj_T0_in (List.mem_of_getElem? (i := 63) (by decide +kernel)) (by decide +kernel), nj_T0_in (List.mem_of_getElem? (i := 72) (by decide +kernel)) (by decide +kernel), nj_T0_in (List.mem_of_getElem? (i := 1219) rfl) (by decide +kernel), by decide +kernel⟩
abbrev nb_Md_thereOf : ByteArray := prog_10_method_92_code
abbrev ny_Md_thereOf : MethodName := ⟨"NobodyJoinsModel", "thereOf", "(I)I"⟩
set_option maxRecDepth 100000 in
theorem my_Md_thereOf : nj_MV ny_Md_thereOf nb_Md_thereOf 4 (some .int) 1 := ⟨nj_T0_in (List.mem_of_getElem? (i := 1222) (by decide +kernel)) (by decide +kernel), nj_T0_in (List.mem_of_getElem? (i := 64) (by decide +kernel)) (by decide +kernel), nj_T0_in (List.mem_of_getElem? (i := 72) (by decide +kernel)) (by decide +kernel), nj_T0_in (List.mem_of_getElem? (i := 1223) rfl) (by decide +kernel), by decide +kernel⟩
abbrev nb_Md_finding : ByteArray := prog_10_method_95_code
abbrev ny_Md_finding : MethodName := ⟨"NobodyJoinsModel", "finding", "()I"⟩
set_option maxRecDepth 100000 in
theorem my_Md_finding : nj_MV ny_Md_finding nb_Md_finding 1 (some .int) 0 := ⟨nj_T0_in (List.mem_of_getElem? (i := 1225) (by decide +kernel)) (by decide +kernel), nj_T0_in (List.mem_of_getElem? (i := 1226) (by decide +kernel)) (by decide +kernel), nj_T0_in (List.mem_of_getElem? (i := 72) (by decide +kernel)) (by decide +kernel), nj_T0_in (List.mem_of_getElem? (i := 1227) rfl) (by decide +kernel), by decide +kernel⟩
abbrev nb_Md_findings : ByteArray := prog_10_method_96_code
abbrev ny_Md_findings : MethodName := ⟨"NobodyJoinsModel", "findings", "(I)I"⟩
set_option maxRecDepth 100000 in
theorem my_Md_findings : nj_MV ny_Md_findings nb_Md_findings 2 (some .int) 1 := ⟨nj_T0_in (List.mem_of_getElem? (i := 1229) (by decide +kernel)) (by decide +kernel), nj_T0_in (List.mem_of_getElem? (i := 1230) (by decide +kernel)) (by decide +kernel), nj_T0_in (List.mem_of_getElem? (i := 72) (by decide +kernel)) (by decide +kernel), nj_T0_in (List.mem_of_getElem? (i := 1231) rfl) (by decide +kernel), by decide +kernel⟩
abbrev nb_Md_digest : ByteArray := prog_10_method_97_code
abbrev ny_Md_digest : MethodName := ⟨"NobodyJoinsModel", "digest", "()J"⟩
set_option maxRecDepth 100000 in
theorem my_Md_digest : nj_MV ny_Md_digest nb_Md_digest 5 (some .long) 0 := ⟨nj_T0_in (List.mem_of_getElem? (i := 1233) (by decide +kernel)) (by decide +kernel), nj_T0_in (List.mem_of_getElem? (i := 1234) (by decide +kernel)) (by decide +kernel), nj_T0_in (List.mem_of_getElem? (i := 72) (by decide +kernel)) (by decide +kernel), nj_T0_in (List.mem_of_getElem? (i := 1235) rfl) (by decide +kernel), by decide +kernel⟩
theorem sy_n : Cond.native arraycopyName ∈ nj_T0 := nj_T0_in (List.mem_of_getElem? (i := 282) (by decide +kernel)) (by decide +kernel)
theorem sy_s : Cond.static arraycopyName ∈ nj_T0 := nj_T0_in (List.mem_of_getElem? (i := 281) (by decide +kernel)) (by decide +kernel)
theorem sy_i : Cond.initialized "java/lang/System" ∈ nj_T0 := nj_T0_in (List.mem_of_getElem? (i := 73) (by decide +kernel)) (by decide +kernel)
theorem mx_s : Cond.static Lib.Math.max.name ∈ nj_T0 := nj_T0_in (List.mem_of_getElem? (i := 416) (by decide +kernel)) (by decide +kernel)
theorem mx_i : Cond.initialized "java/lang/Math" ∈ nj_T0 := nj_T0_in (List.mem_of_getElem? (i := 75) (by decide +kernel)) (by decide +kernel)
theorem mx_c : Cond.code Lib.Math.max.name Lib.Math.max.code 2 (some .int) ∈ nj_T0 := nj_T0_in (List.mem_of_getElem? (i := 417) (by decide +kernel)) (by decide +kernel)
theorem fl_Club_9 : nj_FL "NobodyJoins$Club" 9 0 0 (.array .int) true := ⟨_, rfl, by decide, nj_T0_in (List.mem_of_getElem? (i := 96) (by decide +kernel)) (by decide +kernel), by decide +kernel, rfl⟩
theorem fl_Club_15 : nj_FL "NobodyJoins$Club" 15 0 1 (.array .int) true := ⟨_, rfl, by decide, nj_T0_in (List.mem_of_getElem? (i := 97) (by decide +kernel)) (by decide +kernel), by decide +kernel, rfl⟩
theorem fl_Club_18 : nj_FL "NobodyJoins$Club" 18 0 2 (.array .int) true := ⟨_, rfl, by decide, nj_T0_in (List.mem_of_getElem? (i := 98) (by decide +kernel)) (by decide +kernel), by decide +kernel, rfl⟩
theorem fl_Club_21 : nj_FL "NobodyJoins$Club" 21 0 3 (.array .int) true := ⟨_, rfl, by decide, nj_T0_in (List.mem_of_getElem? (i := 101) (by decide +kernel)) (by decide +kernel), by decide +kernel, rfl⟩
theorem fl_Club_24 : nj_FL "NobodyJoins$Club" 24 0 4 .int false := ⟨_, rfl, by decide, nj_T0_in (List.mem_of_getElem? (i := 102) (by decide +kernel)) (by decide +kernel), by decide +kernel, rfl⟩
theorem fl_Club_28 : nj_FL "NobodyJoins$Club" 28 0 5 .int false := ⟨_, rfl, by decide, nj_T0_in (List.mem_of_getElem? (i := 107) (by decide +kernel)) (by decide +kernel), by decide +kernel, rfl⟩
theorem fl_Club_31 : nj_FL "NobodyJoins$Club" 31 0 6 .int false := ⟨_, rfl, by decide, nj_T0_in (List.mem_of_getElem? (i := 110) (by decide +kernel)) (by decide +kernel), by decide +kernel, rfl⟩
theorem fl_Club_34 : nj_FL "NobodyJoins$Club" 34 0 7 .int false := ⟨_, rfl, by decide, nj_T0_in (List.mem_of_getElem? (i := 115) (by decide +kernel)) (by decide +kernel), by decide +kernel, rfl⟩
theorem fl_Club_37 : nj_FL "NobodyJoins$Club" 37 0 8 .int false := ⟨_, rfl, by decide, nj_T0_in (List.mem_of_getElem? (i := 117) (by decide +kernel)) (by decide +kernel), by decide +kernel, rfl⟩
theorem ml_Club_40 : Cond.methodLink "NobodyJoins$Club" 40 arraycopyName ∈ nj_T0 := nj_T0_in (List.mem_of_getElem? (i := 373) (by decide +kernel)) (by decide +kernel)
theorem ml_Club_53 : Cond.methodLink "NobodyJoins$Club" 53 ny_Club_votesOf ∈ nj_T0 := nj_T0_in (List.mem_of_getElem? (i := 387) (by decide +kernel)) (by decide +kernel)
theorem ml_Club_57 : Cond.methodLink "NobodyJoins$Club" 57 ny_Club_likingsOf ∈ nj_T0 := nj_T0_in (List.mem_of_getElem? (i := 393) (by decide +kernel)) (by decide +kernel)
theorem ml_Club_60 : Cond.methodLink "NobodyJoins$Club" 60 ny_Integer_bitCount ∈ nj_T0 := nj_T0_in (List.mem_of_getElem? (i := 409) (by decide +kernel)) (by decide +kernel)
theorem ml_Club_65 : Cond.methodLink "NobodyJoins$Club" 65 Lib.Math.max.name ∈ nj_T0 := nj_T0_in (List.mem_of_getElem? (i := 415) (by decide +kernel)) (by decide +kernel)
theorem ml_Club_84 : Cond.methodLink "NobodyJoins$Club" 84 ny_Club_isPutOut ∈ nj_T0 := nj_T0_in (List.mem_of_getElem? (i := 430) (by decide +kernel)) (by decide +kernel)
theorem ml_Club_71 : Cond.methodLink "NobodyJoins$Club" 71 ny_Club_votesOfSet ∈ nj_T0 := nj_T0_in (List.mem_of_getElem? (i := 434) (by decide +kernel)) (by decide +kernel)
theorem ml_Club_74 : Cond.methodLink "NobodyJoins$Club" 74 ny_Club_isCarried ∈ nj_T0 := nj_T0_in (List.mem_of_getElem? (i := 438) (by decide +kernel)) (by decide +kernel)
theorem ml_Club_78 : Cond.methodLink "NobodyJoins$Club" 78 ny_Club_doSistersAgree ∈ nj_T0 := nj_T0_in (List.mem_of_getElem? (i := 442) (by decide +kernel)) (by decide +kernel)
theorem ml_Club_81 : Cond.methodLink "NobodyJoins$Club" 81 ny_Club_allOfKind ∈ nj_T0 := nj_T0_in (List.mem_of_getElem? (i := 446) (by decide +kernel)) (by decide +kernel)
theorem ml_Club_46 : Cond.methodLink "NobodyJoins$Club" 46 ny_Club_isOfKind ∈ nj_T0 := nj_T0_in (List.mem_of_getElem? (i := 450) (by decide +kernel)) (by decide +kernel)
theorem ml_Club_94 : Cond.methodLink "NobodyJoins$Club" 94 ny_Club_note ∈ nj_T0 := nj_T0_in (List.mem_of_getElem? (i := 455) (by decide +kernel)) (by decide +kernel)
theorem ml_Club_90 : Cond.methodLink "NobodyJoins$Club" 90 ny_Club_isIn ∈ nj_T0 := nj_T0_in (List.mem_of_getElem? (i := 468) (by decide +kernel)) (by decide +kernel)
theorem ml_Club_98 : Cond.methodLink "NobodyJoins$Club" 98 ny_Club_toggleLiking ∈ nj_T0 := nj_T0_in (List.mem_of_getElem? (i := 492) (by decide +kernel)) (by decide +kernel)
theorem ml_Club_117 : Cond.methodLink "NobodyJoins$Club" 117 ny_Club_giveBack ∈ nj_T0 := nj_T0_in (List.mem_of_getElem? (i := 501) (by decide +kernel)) (by decide +kernel)
theorem ml_Club_87 : Cond.methodLink "NobodyJoins$Club" 87 ny_Club_putOutOf ∈ nj_T0 := nj_T0_in (List.mem_of_getElem? (i := 578) (by decide +kernel)) (by decide +kernel)
theorem ml_Club_101 : Cond.methodLink "NobodyJoins$Club" 101 ny_Club_putOut ∈ nj_T0 := nj_T0_in (List.mem_of_getElem? (i := 712) (by decide +kernel)) (by decide +kernel)
theorem ml_Club_105 : Cond.methodLink "NobodyJoins$Club" 105 ny_Club_mayJoin ∈ nj_T0 := nj_T0_in (List.mem_of_getElem? (i := 713) (by decide +kernel)) (by decide +kernel)
theorem ml_Club_108 : Cond.methodLink "NobodyJoins$Club" 108 ny_Club_letIn ∈ nj_T0 := nj_T0_in (List.mem_of_getElem? (i := 714) (by decide +kernel)) (by decide +kernel)
theorem ml_Club_111 : Cond.methodLink "NobodyJoins$Club" 111 ny_Club_payFee ∈ nj_T0 := nj_T0_in (List.mem_of_getElem? (i := 715) (by decide +kernel)) (by decide +kernel)
theorem ml_Club_114 : Cond.methodLink "NobodyJoins$Club" 114 ny_Club_bearGrudge ∈ nj_T0 := nj_T0_in (List.mem_of_getElem? (i := 716) (by decide +kernel)) (by decide +kernel)
theorem fl_Orders_42 : nj_FL "NobodyJoins$Orders" 42 0 4 .int false := ⟨_, rfl, by decide, nj_T0_in (List.mem_of_getElem? (i := 104) (by decide +kernel)) (by decide +kernel), by decide +kernel, rfl⟩
theorem fl_Orders_19 : nj_FL "NobodyJoins$Orders" 19 0 6 .int false := ⟨_, rfl, by decide, nj_T0_in (List.mem_of_getElem? (i := 113) (by decide +kernel)) (by decide +kernel), by decide +kernel, rfl⟩
theorem fl_Orders_9 : nj_FL "NobodyJoins$Orders" 9 1 0 (.array .int) true := ⟨_, rfl, by decide, nj_T0_in (List.mem_of_getElem? (i := 159) (by decide +kernel)) (by decide +kernel), by decide +kernel, rfl⟩
theorem fl_Orders_35 : nj_FL "NobodyJoins$Orders" 35 3 0 (.array .int) true := ⟨_, rfl, by decide, nj_T0_in (List.mem_of_getElem? (i := 169) (by decide +kernel)) (by decide +kernel), by decide +kernel, rfl⟩
theorem fl_Orders_58 : nj_FL "NobodyJoins$Orders" 58 3 1 .int false := ⟨_, rfl, by decide, nj_T0_in (List.mem_of_getElem? (i := 175) (by decide +kernel)) (by decide +kernel), by decide +kernel, rfl⟩
theorem ml_Orders_15 : Cond.methodLink "NobodyJoins$Orders" 15 ny_Orders_measureLengths ∈ nj_T0 := nj_T0_in (List.mem_of_getElem? (i := 551) (by decide +kernel)) (by decide +kernel)
theorem ml_Orders_38 : Cond.methodLink "NobodyJoins$Orders" 38 ny_Club_putOutOf ∈ nj_T0 := nj_T0_in (List.mem_of_getElem? (i := 555) (by decide +kernel)) (by decide +kernel)
theorem ml_Orders_45 : Cond.methodLink "NobodyJoins$Orders" 45 Lib.Math.max.name ∈ nj_T0 := nj_T0_in (List.mem_of_getElem? (i := 556) (by decide +kernel)) (by decide +kernel)
theorem ml_Orders_25 : Cond.methodLink "NobodyJoins$Orders" 25 ny_Row_renew ∈ nj_T0 := nj_T0_in (List.mem_of_getElem? (i := 557) (by decide +kernel)) (by decide +kernel)
theorem ml_Orders_31 : Cond.methodLink "NobodyJoins$Orders" 31 ny_Orders_firstOfLongest ∈ nj_T0 := nj_T0_in (List.mem_of_getElem? (i := 558) (by decide +kernel)) (by decide +kernel)
theorem ml_Orders_51 : Cond.methodLink "NobodyJoins$Orders" 51 ny_Club_standsStill ∈ nj_T0 := nj_T0_in (List.mem_of_getElem? (i := 574) (by decide +kernel)) (by decide +kernel)
theorem ml_Orders_55 : Cond.methodLink "NobodyJoins$Orders" 55 ny_Orders_countPaths ∈ nj_T0 := nj_T0_in (List.mem_of_getElem? (i := 591) (by decide +kernel)) (by decide +kernel)
theorem fl_Reader_63 : nj_FL "NobodyJoins$Reader" 63 0 2 (.array .int) true := ⟨_, rfl, by decide, nj_T0_in (List.mem_of_getElem? (i := 99) (by decide +kernel)) (by decide +kernel), by decide +kernel, rfl⟩
theorem fl_Reader_36 : nj_FL "NobodyJoins$Reader" 36 0 4 .int false := ⟨_, rfl, by decide, nj_T0_in (List.mem_of_getElem? (i := 103) (by decide +kernel)) (by decide +kernel), by decide +kernel, rfl⟩
theorem fl_Reader_53 : nj_FL "NobodyJoins$Reader" 53 0 5 .int false := ⟨_, rfl, by decide, nj_T0_in (List.mem_of_getElem? (i := 108) (by decide +kernel)) (by decide +kernel), by decide +kernel, rfl⟩
theorem fl_Reader_9 : nj_FL "NobodyJoins$Reader" 9 2 0 .int false := ⟨_, rfl, by decide, nj_T0_in (List.mem_of_getElem? (i := 146) (by decide +kernel)) (by decide +kernel), by decide +kernel, rfl⟩
theorem fl_Reader_15 : nj_FL "NobodyJoins$Reader" 15 2 1 .int false := ⟨_, rfl, by decide, nj_T0_in (List.mem_of_getElem? (i := 147) (by decide +kernel)) (by decide +kernel), by decide +kernel, rfl⟩
theorem fl_Reader_31 : nj_FL "NobodyJoins$Reader" 31 4 1 .int false := ⟨_, rfl, by decide, nj_T0_in (List.mem_of_getElem? (i := 189) (by decide +kernel)) (by decide +kernel), by decide +kernel, rfl⟩
theorem ml_Reader_18 : Cond.methodLink "NobodyJoins$Reader" 18 ny_Club_clear ∈ nj_T0 := nj_T0_in (List.mem_of_getElem? (i := 322) (by decide +kernel)) (by decide +kernel)
theorem ml_Reader_23 : Cond.methodLink "NobodyJoins$Reader" 23 ny_Reader_skipBlanks ∈ nj_T0 := nj_T0_in (List.mem_of_getElem? (i := 326) (by decide +kernel)) (by decide +kernel)
theorem ml_Reader_39 : Cond.methodLink "NobodyJoins$Reader" 39 ny_Text_signAt ∈ nj_T0 := nj_T0_in (List.mem_of_getElem? (i := 330) (by decide +kernel)) (by decide +kernel)
theorem ml_Reader_27 : Cond.methodLink "NobodyJoins$Reader" 27 ny_Reader_readRule ∈ nj_T0 := nj_T0_in (List.mem_of_getElem? (i := 335) (by decide +kernel)) (by decide +kernel)
theorem ml_Reader_49 : Cond.methodLink "NobodyJoins$Reader" 49 ny_Text_figureAt ∈ nj_T0 := nj_T0_in (List.mem_of_getElem? (i := 339) (by decide +kernel)) (by decide +kernel)
theorem ml_Reader_43 : Cond.methodLink "NobodyJoins$Reader" 43 ny_Reader_readPair ∈ nj_T0 := nj_T0_in (List.mem_of_getElem? (i := 344) (by decide +kernel)) (by decide +kernel)
theorem ml_Reader_67 : Cond.methodLink "NobodyJoins$Reader" 67 ny_Club_toggleLiking ∈ nj_T0 := nj_T0_in (List.mem_of_getElem? (i := 348) (by decide +kernel)) (by decide +kernel)
theorem ml_Reader_46 : Cond.methodLink "NobodyJoins$Reader" 46 ny_Reader_readChild ∈ nj_T0 := nj_T0_in (List.mem_of_getElem? (i := 352) (by decide +kernel)) (by decide +kernel)
theorem ml_Reader_56 : Cond.methodLink "NobodyJoins$Reader" 56 ny_Reader_kindOf ∈ nj_T0 := nj_T0_in (List.mem_of_getElem? (i := 356) (by decide +kernel)) (by decide +kernel)
theorem ml_Reader_59 : Cond.methodLink "NobodyJoins$Reader" 59 ny_Club_addChild ∈ nj_T0 := nj_T0_in (List.mem_of_getElem? (i := 361) (by decide +kernel)) (by decide +kernel)
theorem fl_Row_9 : nj_FL "NobodyJoins$Row" 9 3 0 (.array .int) true := ⟨_, rfl, by decide, nj_T0_in (List.mem_of_getElem? (i := 168) (by decide +kernel)) (by decide +kernel), by decide +kernel, rfl⟩
theorem fl_Row_15 : nj_FL "NobodyJoins$Row" 15 3 1 .int false := ⟨_, rfl, by decide, nj_T0_in (List.mem_of_getElem? (i := 172) (by decide +kernel)) (by decide +kernel), by decide +kernel, rfl⟩
theorem kl_Row_19 : Cond.constantLong "NobodyJoins$Row" 19 31 ∈ nj_T0 := nj_T0_in (List.mem_of_getElem? (i := 765) (by decide +kernel)) (by decide +kernel)
theorem fl_Text_9 : nj_FL "NobodyJoins$Text" 9 4 0 (.array .byte) true := ⟨_, rfl, by decide, nj_T0_in (List.mem_of_getElem? (i := 186) (by decide +kernel)) (by decide +kernel), by decide +kernel, rfl⟩
theorem fl_Text_15 : nj_FL "NobodyJoins$Text" 15 4 1 .int false := ⟨_, rfl, by decide, nj_T0_in (List.mem_of_getElem? (i := 188) (by decide +kernel)) (by decide +kernel), by decide +kernel, rfl⟩
theorem ml_Text_19 : Cond.methodLink "NobodyJoins$Text" 19 ny_Text_hasPlace ∈ nj_T0 := nj_T0_in (List.mem_of_getElem? (i := 334) (by decide +kernel)) (by decide +kernel)
theorem ml_Text_23 : Cond.methodLink "NobodyJoins$Text" 23 ny_Text_signAt ∈ nj_T0 := nj_T0_in (List.mem_of_getElem? (i := 343) (by decide +kernel)) (by decide +kernel)
theorem kl_Text_27 : Cond.constantLong "NobodyJoins$Text" 27 31 ∈ nj_T0 := nj_T0_in (List.mem_of_getElem? (i := 770) (by decide +kernel)) (by decide +kernel)
theorem fl_Sums_39 : nj_FL "NobodyJoins$Sums" 39 0 4 .int false := ⟨_, rfl, by decide, nj_T0_in (List.mem_of_getElem? (i := 105) (by decide +kernel)) (by decide +kernel), by decide +kernel, rfl⟩
theorem fl_Sums_7 : nj_FL "NobodyJoins$Sums" 7 0 6 .int false := ⟨_, rfl, by decide, nj_T0_in (List.mem_of_getElem? (i := 112) (by decide +kernel)) (by decide +kernel), by decide +kernel, rfl⟩
theorem fl_Sums_36 : nj_FL "NobodyJoins$Sums" 36 3 0 (.array .int) true := ⟨_, rfl, by decide, nj_T0_in (List.mem_of_getElem? (i := 170) (by decide +kernel)) (by decide +kernel), by decide +kernel, rfl⟩
theorem fl_Sums_31 : nj_FL "NobodyJoins$Sums" 31 3 1 .int false := ⟨_, rfl, by decide, nj_T0_in (List.mem_of_getElem? (i := 173) (by decide +kernel)) (by decide +kernel), by decide +kernel, rfl⟩
theorem ml_Sums_13 : Cond.methodLink "NobodyJoins$Sums" 13 ny_Club_votesOfSet ∈ nj_T0 := nj_T0_in (List.mem_of_getElem? (i := 644) (by decide +kernel)) (by decide +kernel)
theorem ml_Sums_17 : Cond.methodLink "NobodyJoins$Sums" 17 ny_Club_votesOf ∈ nj_T0 := nj_T0_in (List.mem_of_getElem? (i := 645) (by decide +kernel)) (by decide +kernel)
theorem ml_Sums_26 : Cond.methodLink "NobodyJoins$Sums" 26 ny_Integer_bitCount ∈ nj_T0 := nj_T0_in (List.mem_of_getElem? (i := 648) (by decide +kernel)) (by decide +kernel)
theorem ml_Sums_42 : Cond.methodLink "NobodyJoins$Sums" 42 ny_Sums_isNamed ∈ nj_T0 := nj_T0_in (List.mem_of_getElem? (i := 686) (by decide +kernel)) (by decide +kernel)
theorem ml_Sums_48 : Cond.methodLink "NobodyJoins$Sums" 48 ny_Sums_likersThatFit ∈ nj_T0 := nj_T0_in (List.mem_of_getElem? (i := 689) (by decide +kernel)) (by decide +kernel)
theorem ml_Sums_52 : Cond.methodLink "NobodyJoins$Sums" 52 ny_Club_votesAgainst ∈ nj_T0 := nj_T0_in (List.mem_of_getElem? (i := 692) (by decide +kernel)) (by decide +kernel)
theorem ml_Sums_56 : Cond.methodLink "NobodyJoins$Sums" 56 ny_Sums_allSay ∈ nj_T0 := nj_T0_in (List.mem_of_getElem? (i := 693) (by decide +kernel)) (by decide +kernel)
theorem fl_Peace_9 : nj_FL "NobodyJoins$Peace" 9 0 6 .int false := ⟨_, rfl, by decide, nj_T0_in (List.mem_of_getElem? (i := 111) (by decide +kernel)) (by decide +kernel), by decide +kernel, rfl⟩
theorem ml_Peace_15 : Cond.methodLink "NobodyJoins$Peace" 15 ny_Club_putOutOf ∈ nj_T0 := nj_T0_in (List.mem_of_getElem? (i := 623) (by decide +kernel)) (by decide +kernel)
theorem ml_Peace_19 : Cond.methodLink "NobodyJoins$Peace" 19 ny_Integer_bitCount ∈ nj_T0 := nj_T0_in (List.mem_of_getElem? (i := 624) (by decide +kernel)) (by decide +kernel)
theorem ml_Peace_24 : Cond.methodLink "NobodyJoins$Peace" 24 ny_Peace_isPairIn ∈ nj_T0 := nj_T0_in (List.mem_of_getElem? (i := 625) (by decide +kernel)) (by decide +kernel)
theorem ml_Peace_38 : Cond.methodLink "NobodyJoins$Peace" 38 ny_Club_isIn ∈ nj_T0 := nj_T0_in (List.mem_of_getElem? (i := 628) (by decide +kernel)) (by decide +kernel)
theorem ml_Peace_30 : Cond.methodLink "NobodyJoins$Peace" 30 ny_Peace_toggle ∈ nj_T0 := nj_T0_in (List.mem_of_getElem? (i := 629) (by decide +kernel)) (by decide +kernel)
theorem ml_Peace_42 : Cond.methodLink "NobodyJoins$Peace" 42 ny_Club_toggleLiking ∈ nj_T0 := nj_T0_in (List.mem_of_getElem? (i := 632) (by decide +kernel)) (by decide +kernel)
theorem ml_Peace_34 : Cond.methodLink "NobodyJoins$Peace" 34 ny_Peace_firstGrudge ∈ nj_T0 := nj_T0_in (List.mem_of_getElem? (i := 636) (by decide +kernel)) (by decide +kernel)
theorem kl_Integer_265 : Cond.constant "java/lang/Integer" 265 1431655765 ∈ nj_T0 := nj_T0_in (List.mem_of_getElem? (i := 412) (by decide +kernel)) (by decide +kernel)
theorem kl_Integer_266 : Cond.constant "java/lang/Integer" 266 858993459 ∈ nj_T0 := nj_T0_in (List.mem_of_getElem? (i := 413) (by decide +kernel)) (by decide +kernel)
theorem kl_Integer_267 : Cond.constant "java/lang/Integer" 267 252645135 ∈ nj_T0 := nj_T0_in (List.mem_of_getElem? (i := 414) (by decide +kernel)) (by decide +kernel)
theorem fl_Nj_183 : nj_FL "NobodyJoins" 183 0 2 (.array .int) true := ⟨_, rfl, by decide, nj_T0_in (List.mem_of_getElem? (i := 100) (by decide +kernel)) (by decide +kernel), by decide +kernel, rfl⟩
theorem fl_Nj_132 : nj_FL "NobodyJoins" 132 0 4 .int false := ⟨_, rfl, by decide, nj_T0_in (List.mem_of_getElem? (i := 106) (by decide +kernel)) (by decide +kernel), by decide +kernel, rfl⟩
theorem fl_Nj_150 : nj_FL "NobodyJoins" 150 0 5 .int false := ⟨_, rfl, by decide, nj_T0_in (List.mem_of_getElem? (i := 109) (by decide +kernel)) (by decide +kernel), by decide +kernel, rfl⟩
theorem fl_Nj_153 : nj_FL "NobodyJoins" 153 0 6 .int false := ⟨_, rfl, by decide, nj_T0_in (List.mem_of_getElem? (i := 114) (by decide +kernel)) (by decide +kernel), by decide +kernel, rfl⟩
theorem fl_Nj_176 : nj_FL "NobodyJoins" 176 0 7 .int false := ⟨_, rfl, by decide, nj_T0_in (List.mem_of_getElem? (i := 116) (by decide +kernel)) (by decide +kernel), by decide +kernel, rfl⟩
theorem fl_Nj_147 : nj_FL "NobodyJoins" 147 0 8 .int false := ⟨_, rfl, by decide, nj_T0_in (List.mem_of_getElem? (i := 118) (by decide +kernel)) (by decide +kernel), by decide +kernel, rfl⟩
theorem fl_Nj_85 : nj_FL "NobodyJoins" 85 3 0 (.array .int) true := ⟨_, rfl, by decide, nj_T0_in (List.mem_of_getElem? (i := 171) (by decide +kernel)) (by decide +kernel), by decide +kernel, rfl⟩
theorem fl_Nj_92 : nj_FL "NobodyJoins" 92 3 1 .int false := ⟨_, rfl, by decide, nj_T0_in (List.mem_of_getElem? (i := 174) (by decide +kernel)) (by decide +kernel), by decide +kernel, rfl⟩
theorem fl_Nj_117 : nj_FL "NobodyJoins" 117 4 0 (.array .byte) true := ⟨_, rfl, by decide, nj_T0_in (List.mem_of_getElem? (i := 187) (by decide +kernel)) (by decide +kernel), by decide +kernel, rfl⟩
theorem fl_Nj_11 : nj_FL "NobodyJoins" 11 5 0 (.array (.object "NobodyJoins$Row")) true := ⟨_, rfl, by decide, nj_T0_in (List.mem_of_getElem? (i := 196) (by decide +kernel)) (by decide +kernel), by decide +kernel, rfl⟩
theorem fl_Nj_17 : nj_FL "NobodyJoins" 17 5 1 (.array (.object "NobodyJoins$Text")) true := ⟨_, rfl, by decide, nj_T0_in (List.mem_of_getElem? (i := 197) (by decide +kernel)) (by decide +kernel), by decide +kernel, rfl⟩
theorem fl_Nj_24 : nj_FL "NobodyJoins" 24 5 2 (.object "NobodyJoins$Club") true := ⟨_, rfl, by decide, nj_T0_in (List.mem_of_getElem? (i := 198) (by decide +kernel)) (by decide +kernel), by decide +kernel, rfl⟩
theorem fl_Nj_28 : nj_FL "NobodyJoins" 28 5 3 (.object "NobodyJoins$Club") true := ⟨_, rfl, by decide, nj_T0_in (List.mem_of_getElem? (i := 199) (by decide +kernel)) (by decide +kernel), by decide +kernel, rfl⟩
theorem fl_Nj_31 : nj_FL "NobodyJoins" 31 5 4 (.array (.object "NobodyJoins$Club")) true := ⟨_, rfl, by decide, nj_T0_in (List.mem_of_getElem? (i := 200) (by decide +kernel)) (by decide +kernel), by decide +kernel, rfl⟩
theorem fl_Nj_38 : nj_FL "NobodyJoins" 38 5 5 (.object "NobodyJoins$Reader") true := ⟨_, rfl, by decide, nj_T0_in (List.mem_of_getElem? (i := 201) (by decide +kernel)) (by decide +kernel), by decide +kernel, rfl⟩
theorem fl_Nj_45 : nj_FL "NobodyJoins" 45 5 6 (.object "NobodyJoins$Orders") true := ⟨_, rfl, by decide, nj_T0_in (List.mem_of_getElem? (i := 202) (by decide +kernel)) (by decide +kernel), by decide +kernel, rfl⟩
theorem fl_Nj_49 : nj_FL "NobodyJoins" 49 5 7 (.array .int) true := ⟨_, rfl, by decide, nj_T0_in (List.mem_of_getElem? (i := 203) (by decide +kernel)) (by decide +kernel), by decide +kernel, rfl⟩
theorem fl_Nj_53 : nj_FL "NobodyJoins" 53 5 8 .int false := ⟨_, rfl, by decide, nj_T0_in (List.mem_of_getElem? (i := 204) (by decide +kernel)) (by decide +kernel), by decide +kernel, rfl⟩
theorem fl_Nj_57 : nj_FL "NobodyJoins" 57 5 9 .int false := ⟨_, rfl, by decide, nj_T0_in (List.mem_of_getElem? (i := 205) (by decide +kernel)) (by decide +kernel), by decide +kernel, rfl⟩
theorem fl_Nj_60 : nj_FL "NobodyJoins" 60 5 10 .long false := ⟨_, rfl, by decide, nj_T0_in (List.mem_of_getElem? (i := 206) (by decide +kernel)) (by decide +kernel), by decide +kernel, rfl⟩
theorem fl_Nj_64 : nj_FL "NobodyJoins" 64 5 11 .long false := ⟨_, rfl, by decide, nj_T0_in (List.mem_of_getElem? (i := 207) (by decide +kernel)) (by decide +kernel), by decide +kernel, rfl⟩
theorem fl_Nj_254 : Cond.fieldLink "NobodyJoins" 254 "NobodyJoins" "FACTORIALS" "[I" ∈ nj_T0 := nj_T0_in (List.mem_of_getElem? (i := 649) (by decide +kernel)) (by decide +kernel)
theorem ml_Nj_69 : Cond.methodLink "NobodyJoins" 69 ny_Nj_isRow ∈ nj_T0 := nj_T0_in (List.mem_of_getElem? (i := 237) (by decide +kernel)) (by decide +kernel)
theorem ml_Nj_73 : Cond.methodLink "NobodyJoins" 73 ny_Nj_found ∈ nj_T0 := nj_T0_in (List.mem_of_getElem? (i := 240) (by decide +kernel)) (by decide +kernel)
theorem ml_Nj_77 : Cond.methodLink "NobodyJoins" 77 ny_Row_renew ∈ nj_T0 := nj_T0_in (List.mem_of_getElem? (i := 244) (by decide +kernel)) (by decide +kernel)
theorem ml_Nj_81 : Cond.methodLink "NobodyJoins" 81 ny_Nj_refusalOfPlace ∈ nj_T0 := nj_T0_in (List.mem_of_getElem? (i := 252) (by decide +kernel)) (by decide +kernel)
theorem ml_Nj_88 : Cond.methodLink "NobodyJoins" 88 ny_Row_isMissing ∈ nj_T0 := nj_T0_in (List.mem_of_getElem? (i := 256) (by decide +kernel)) (by decide +kernel)
theorem ml_Nj_311 : Cond.methodLink "NobodyJoins" 311 ny_Row_hasPlace ∈ nj_T0 := nj_T0_in (List.mem_of_getElem? (i := 260) (by decide +kernel)) (by decide +kernel)
theorem ml_Nj_95 : Cond.methodLink "NobodyJoins" 95 ny_Row_hasPlaces ∈ nj_T0 := nj_T0_in (List.mem_of_getElem? (i := 276) (by decide +kernel)) (by decide +kernel)
theorem ml_Nj_99 : Cond.methodLink "NobodyJoins" 99 arraycopyName ∈ nj_T0 := nj_T0_in (List.mem_of_getElem? (i := 280) (by decide +kernel)) (by decide +kernel)
theorem ml_Nj_105 : Cond.methodLink "NobodyJoins" 105 ny_Row_sum ∈ nj_T0 := nj_T0_in (List.mem_of_getElem? (i := 287) (by decide +kernel)) (by decide +kernel)
theorem ml_Nj_109 : Cond.methodLink "NobodyJoins" 109 ny_Nj_isText ∈ nj_T0 := nj_T0_in (List.mem_of_getElem? (i := 295) (by decide +kernel)) (by decide +kernel)
theorem ml_Nj_112 : Cond.methodLink "NobodyJoins" 112 ny_Text_renew ∈ nj_T0 := nj_T0_in (List.mem_of_getElem? (i := 298) (by decide +kernel)) (by decide +kernel)
theorem ml_Nj_113 : Cond.methodLink "NobodyJoins" 113 ny_Text_isMissing ∈ nj_T0 := nj_T0_in (List.mem_of_getElem? (i := 306) (by decide +kernel)) (by decide +kernel)
theorem ml_Nj_114 : Cond.methodLink "NobodyJoins" 114 ny_Text_hasPlace ∈ nj_T0 := nj_T0_in (List.mem_of_getElem? (i := 310) (by decide +kernel)) (by decide +kernel)
theorem ml_Nj_121 : Cond.methodLink "NobodyJoins" 121 ny_Reader_readClub ∈ nj_T0 := nj_T0_in (List.mem_of_getElem? (i := 318) (by decide +kernel)) (by decide +kernel)
theorem ml_Nj_125 : Cond.methodLink "NobodyJoins" 125 ny_Club_become ∈ nj_T0 := nj_T0_in (List.mem_of_getElem? (i := 369) (by decide +kernel)) (by decide +kernel)
theorem ml_Nj_129 : Cond.methodLink "NobodyJoins" 129 ny_Club_clear ∈ nj_T0 := nj_T0_in (List.mem_of_getElem? (i := 374) (by decide +kernel)) (by decide +kernel)
theorem ml_Nj_135 : Cond.methodLink "NobodyJoins" 135 ny_Nj_isChild ∈ nj_T0 := nj_T0_in (List.mem_of_getElem? (i := 379) (by decide +kernel)) (by decide +kernel)
theorem ml_Nj_138 : Cond.methodLink "NobodyJoins" 138 ny_Club_valueOf ∈ nj_T0 := nj_T0_in (List.mem_of_getElem? (i := 383) (by decide +kernel)) (by decide +kernel)
theorem ml_Nj_141 : Cond.methodLink "NobodyJoins" 141 ny_Club_isOfKind ∈ nj_T0 := nj_T0_in (List.mem_of_getElem? (i := 401) (by decide +kernel)) (by decide +kernel)
theorem ml_Nj_144 : Cond.methodLink "NobodyJoins" 144 ny_Club_markOf ∈ nj_T0 := nj_T0_in (List.mem_of_getElem? (i := 405) (by decide +kernel)) (by decide +kernel)
theorem ml_Nj_156 : Cond.methodLink "NobodyJoins" 156 ny_Club_putOutOf ∈ nj_T0 := nj_T0_in (List.mem_of_getElem? (i := 426) (by decide +kernel)) (by decide +kernel)
theorem ml_Nj_159 : Cond.methodLink "NobodyJoins" 159 ny_Club_putOut ∈ nj_T0 := nj_T0_in (List.mem_of_getElem? (i := 451) (by decide +kernel)) (by decide +kernel)
theorem ml_Nj_162 : Cond.methodLink "NobodyJoins" 162 ny_Integer_bitCount ∈ nj_T0 := nj_T0_in (List.mem_of_getElem? (i := 459) (by decide +kernel)) (by decide +kernel)
theorem ml_Nj_167 : Cond.methodLink "NobodyJoins" 167 ny_Club_mayJoin ∈ nj_T0 := nj_T0_in (List.mem_of_getElem? (i := 464) (by decide +kernel)) (by decide +kernel)
theorem ml_Nj_170 : Cond.methodLink "NobodyJoins" 170 ny_Club_letIn ∈ nj_T0 := nj_T0_in (List.mem_of_getElem? (i := 472) (by decide +kernel)) (by decide +kernel)
theorem ml_Nj_173 : Cond.methodLink "NobodyJoins" 173 ny_Club_payFee ∈ nj_T0 := nj_T0_in (List.mem_of_getElem? (i := 480) (by decide +kernel)) (by decide +kernel)
theorem ml_Nj_179 : Cond.methodLink "NobodyJoins" 179 ny_Club_bearGrudge ∈ nj_T0 := nj_T0_in (List.mem_of_getElem? (i := 488) (by decide +kernel)) (by decide +kernel)
theorem ml_Nj_186 : Cond.methodLink "NobodyJoins" 186 ny_Club_undoLast ∈ nj_T0 := nj_T0_in (List.mem_of_getElem? (i := 497) (by decide +kernel)) (by decide +kernel)
theorem ml_Nj_189 : Cond.methodLink "NobodyJoins" 189 ny_Nj_isKeptPlace ∈ nj_T0 := nj_T0_in (List.mem_of_getElem? (i := 509) (by decide +kernel)) (by decide +kernel)
theorem ml_Nj_192 : Cond.methodLink "NobodyJoins" 192 ny_Nj_refusalOfOneIn ∈ nj_T0 := nj_T0_in (List.mem_of_getElem? (i := 520) (by decide +kernel)) (by decide +kernel)
theorem ml_Nj_206 : Cond.methodLink "NobodyJoins" 206 ny_Club_isIn ∈ nj_T0 := nj_T0_in (List.mem_of_getElem? (i := 524) (by decide +kernel)) (by decide +kernel)
theorem ml_Nj_195 : Cond.methodLink "NobodyJoins" 195 ny_Club_votesAgainst ∈ nj_T0 := nj_T0_in (List.mem_of_getElem? (i := 525) (by decide +kernel)) (by decide +kernel)
theorem ml_Nj_199 : Cond.methodLink "NobodyJoins" 199 ny_Club_votesOfSet ∈ nj_T0 := nj_T0_in (List.mem_of_getElem? (i := 529) (by decide +kernel)) (by decide +kernel)
theorem ml_Nj_202 : Cond.methodLink "NobodyJoins" 202 ny_Club_isPutOut ∈ nj_T0 := nj_T0_in (List.mem_of_getElem? (i := 538) (by decide +kernel)) (by decide +kernel)
theorem ml_Nj_209 : Cond.methodLink "NobodyJoins" 209 ny_Orders_layLongest ∈ nj_T0 := nj_T0_in (List.mem_of_getElem? (i := 547) (by decide +kernel)) (by decide +kernel)
theorem ml_Nj_213 : Cond.methodLink "NobodyJoins" 213 ny_Orders_countPaths ∈ nj_T0 := nj_T0_in (List.mem_of_getElem? (i := 566) (by decide +kernel)) (by decide +kernel)
theorem ml_Nj_216 : Cond.methodLink "NobodyJoins" 216 ny_Orders_endsWith ∈ nj_T0 := nj_T0_in (List.mem_of_getElem? (i := 570) (by decide +kernel)) (by decide +kernel)
theorem ml_Nj_220 : Cond.methodLink "NobodyJoins" 220 ny_Nj_tellNumber ∈ nj_T0 := nj_T0_in (List.mem_of_getElem? (i := 579) (by decide +kernel)) (by decide +kernel)
theorem ml_Nj_224 : Cond.methodLink "NobodyJoins" 224 ny_Orders_lastOnes ∈ nj_T0 := nj_T0_in (List.mem_of_getElem? (i := 587) (by decide +kernel)) (by decide +kernel)
theorem ml_Nj_228 : Cond.methodLink "NobodyJoins" 228 ny_Club_standsStill ∈ nj_T0 := nj_T0_in (List.mem_of_getElem? (i := 596) (by decide +kernel)) (by decide +kernel)
theorem ml_Nj_231 : Cond.methodLink "NobodyJoins" 231 ny_Nj_refusalOfClubAndRow ∈ nj_T0 := nj_T0_in (List.mem_of_getElem? (i := 601) (by decide +kernel)) (by decide +kernel)
theorem ml_Nj_234 : Cond.methodLink "NobodyJoins" 234 ny_Nj_namesChildren ∈ nj_T0 := nj_T0_in (List.mem_of_getElem? (i := 605) (by decide +kernel)) (by decide +kernel)
theorem ml_Nj_238 : Cond.methodLink "NobodyJoins" 238 ny_Orders_leftBy ∈ nj_T0 := nj_T0_in (List.mem_of_getElem? (i := 609) (by decide +kernel)) (by decide +kernel)
theorem ml_Nj_241 : Cond.methodLink "NobodyJoins" 241 ny_Peace_firstGrudge ∈ nj_T0 := nj_T0_in (List.mem_of_getElem? (i := 620) (by decide +kernel)) (by decide +kernel)
theorem ml_Nj_246 : Cond.methodLink "NobodyJoins" 246 ny_Peace_firstTwoGrudges ∈ nj_T0 := nj_T0_in (List.mem_of_getElem? (i := 633) (by decide +kernel)) (by decide +kernel)
theorem ml_Nj_249 : Cond.methodLink "NobodyJoins" 249 ny_Sums_decidedBy ∈ nj_T0 := nj_T0_in (List.mem_of_getElem? (i := 641) (by decide +kernel)) (by decide +kernel)
theorem ml_Nj_257 : Cond.methodLink "NobodyJoins" 257 ny_Nj_tellPart ∈ nj_T0 := nj_T0_in (List.mem_of_getElem? (i := 650) (by decide +kernel)) (by decide +kernel)
theorem ml_Nj_312 : Cond.methodLink "NobodyJoins" 312 ny_Sums_commonDivisor ∈ nj_T0 := nj_T0_in (List.mem_of_getElem? (i := 654) (by decide +kernel)) (by decide +kernel)
theorem ml_Nj_261 : Cond.methodLink "NobodyJoins" 261 ny_Club_shareOf ∈ nj_T0 := nj_T0_in (List.mem_of_getElem? (i := 661) (by decide +kernel)) (by decide +kernel)
theorem ml_Nj_264 : Cond.methodLink "NobodyJoins" 264 ny_Sums_namesSets ∈ nj_T0 := nj_T0_in (List.mem_of_getElem? (i := 673) (by decide +kernel)) (by decide +kernel)
theorem ml_Nj_267 : Cond.methodLink "NobodyJoins" 267 ny_Sums_suspects ∈ nj_T0 := nj_T0_in (List.mem_of_getElem? (i := 676) (by decide +kernel)) (by decide +kernel)
theorem ml_Nj_271 : Cond.methodLink "NobodyJoins" 271 ny_Sums_likingsOf ∈ nj_T0 := nj_T0_in (List.mem_of_getElem? (i := 683) (by decide +kernel)) (by decide +kernel)
theorem ml_Nj_275 : Cond.methodLink "NobodyJoins" 275 ny_Club_likingsOf ∈ nj_T0 := nj_T0_in (List.mem_of_getElem? (i := 700) (by decide +kernel)) (by decide +kernel)
theorem ml_Nj_283 : Cond.methodLink "NobodyJoins" 283 ny_Club_doByLot ∈ nj_T0 := nj_T0_in (List.mem_of_getElem? (i := 708) (by decide +kernel)) (by decide +kernel)
theorem ml_Nj_286 : Cond.methodLink "NobodyJoins" 286 ny_Club_allOfKind ∈ nj_T0 := nj_T0_in (List.mem_of_getElem? (i := 733) (by decide +kernel)) (by decide +kernel)
theorem ml_Nj_289 : Cond.methodLink "NobodyJoins" 289 ny_Nj_rowsThere ∈ nj_T0 := nj_T0_in (List.mem_of_getElem? (i := 734) (by decide +kernel)) (by decide +kernel)
theorem ml_Nj_293 : Cond.methodLink "NobodyJoins" 293 ny_Nj_textsThere ∈ nj_T0 := nj_T0_in (List.mem_of_getElem? (i := 738) (by decide +kernel)) (by decide +kernel)
theorem ml_Nj_296 : Cond.methodLink "NobodyJoins" 296 ny_Nj_clubsKept ∈ nj_T0 := nj_T0_in (List.mem_of_getElem? (i := 742) (by decide +kernel)) (by decide +kernel)
theorem ml_Nj_303 : Cond.methodLink "NobodyJoins" 303 ny_Nj_count ∈ nj_T0 := nj_T0_in (List.mem_of_getElem? (i := 760) (by decide +kernel)) (by decide +kernel)
theorem ml_Nj_306 : Cond.methodLink "NobodyJoins" 306 ny_Row_digestedInto ∈ nj_T0 := nj_T0_in (List.mem_of_getElem? (i := 761) (by decide +kernel)) (by decide +kernel)
theorem ml_Nj_310 : Cond.methodLink "NobodyJoins" 310 ny_Text_digestedInto ∈ nj_T0 := nj_T0_in (List.mem_of_getElem? (i := 766) (by decide +kernel)) (by decide +kernel)
theorem kl_Nj_277 : Cond.constantLong "NobodyJoins" 277 12 ∈ nj_T0 := nj_T0_in (List.mem_of_getElem? (i := 701) (by decide +kernel)) (by decide +kernel)
theorem kl_Nj_279 : Cond.constantLong "NobodyJoins" 279 2147483647 ∈ nj_T0 := nj_T0_in (List.mem_of_getElem? (i := 706) (by decide +kernel)) (by decide +kernel)
theorem kl_Nj_281 : Cond.constantLong "NobodyJoins" 281 48271 ∈ nj_T0 := nj_T0_in (List.mem_of_getElem? (i := 707) (by decide +kernel)) (by decide +kernel)
theorem kl_Nj_299 : Cond.constantLong "NobodyJoins" 299 17 ∈ nj_T0 := nj_T0_in (List.mem_of_getElem? (i := 758) (by decide +kernel)) (by decide +kernel)
theorem kl_Nj_301 : Cond.constantLong "NobodyJoins" 301 31 ∈ nj_T0 := nj_T0_in (List.mem_of_getElem? (i := 759) (by decide +kernel)) (by decide +kernel)
theorem fl_Md_7 : nj_FL "NobodyJoinsModel" 7 6 0 (.array .int) true := ⟨_, rfl, by decide, nj_T0_in (List.mem_of_getElem? (i := 777) (by decide +kernel)) (by decide +kernel), by decide +kernel, rfl⟩
theorem fl_Md_142 : nj_FL "NobodyJoinsModel" 142 6 1 .int false := ⟨_, rfl, by decide, nj_T0_in (List.mem_of_getElem? (i := 778) (by decide +kernel)) (by decide +kernel), by decide +kernel, rfl⟩
theorem fl_Md_13 : nj_FL "NobodyJoinsModel" 13 6 2 (.array .int) true := ⟨_, rfl, by decide, nj_T0_in (List.mem_of_getElem? (i := 779) (by decide +kernel)) (by decide +kernel), by decide +kernel, rfl⟩
theorem fl_Md_16 : nj_FL "NobodyJoinsModel" 16 6 3 (.array .int) true := ⟨_, rfl, by decide, nj_T0_in (List.mem_of_getElem? (i := 780) (by decide +kernel)) (by decide +kernel), by decide +kernel, rfl⟩
theorem fl_Md_19 : nj_FL "NobodyJoinsModel" 19 6 4 (.array .int) true := ⟨_, rfl, by decide, nj_T0_in (List.mem_of_getElem? (i := 781) (by decide +kernel)) (by decide +kernel), by decide +kernel, rfl⟩
theorem fl_Md_22 : nj_FL "NobodyJoinsModel" 22 6 5 (.array .int) true := ⟨_, rfl, by decide, nj_T0_in (List.mem_of_getElem? (i := 782) (by decide +kernel)) (by decide +kernel), by decide +kernel, rfl⟩
theorem fl_Md_25 : nj_FL "NobodyJoinsModel" 25 6 6 (.array .int) true := ⟨_, rfl, by decide, nj_T0_in (List.mem_of_getElem? (i := 783) (by decide +kernel)) (by decide +kernel), by decide +kernel, rfl⟩
theorem fl_Md_55 : nj_FL "NobodyJoinsModel" 55 6 7 .int false := ⟨_, rfl, by decide, nj_T0_in (List.mem_of_getElem? (i := 784) (by decide +kernel)) (by decide +kernel), by decide +kernel, rfl⟩
theorem fl_Md_216 : nj_FL "NobodyJoinsModel" 216 6 8 .long false := ⟨_, rfl, by decide, nj_T0_in (List.mem_of_getElem? (i := 785) (by decide +kernel)) (by decide +kernel), by decide +kernel, rfl⟩
theorem fl_Md_28 : nj_FL "NobodyJoinsModel" 28 6 9 .long false := ⟨_, rfl, by decide, nj_T0_in (List.mem_of_getElem? (i := 786) (by decide +kernel)) (by decide +kernel), by decide +kernel, rfl⟩
theorem fl_Md_51 : nj_FL "NobodyJoinsModel" 51 6 10 .int false := ⟨_, rfl, by decide, nj_T0_in (List.mem_of_getElem? (i := 787) (by decide +kernel)) (by decide +kernel), by decide +kernel, rfl⟩
theorem fl_Md_32 : nj_FL "NobodyJoinsModel" 32 6 11 (.array .int) true := ⟨_, rfl, by decide, nj_T0_in (List.mem_of_getElem? (i := 788) (by decide +kernel)) (by decide +kernel), by decide +kernel, rfl⟩
theorem fl_Md_92 : nj_FL "NobodyJoinsModel" 92 6 12 .int false := ⟨_, rfl, by decide, nj_T0_in (List.mem_of_getElem? (i := 789) (by decide +kernel)) (by decide +kernel), by decide +kernel, rfl⟩
theorem fl_Md_95 : nj_FL "NobodyJoinsModel" 95 6 13 .int false := ⟨_, rfl, by decide, nj_T0_in (List.mem_of_getElem? (i := 790) (by decide +kernel)) (by decide +kernel), by decide +kernel, rfl⟩
theorem fl_Md_98 : nj_FL "NobodyJoinsModel" 98 6 14 .int false := ⟨_, rfl, by decide, nj_T0_in (List.mem_of_getElem? (i := 791) (by decide +kernel)) (by decide +kernel), by decide +kernel, rfl⟩
theorem fl_Md_113 : nj_FL "NobodyJoinsModel" 113 6 15 .int false := ⟨_, rfl, by decide, nj_T0_in (List.mem_of_getElem? (i := 792) (by decide +kernel)) (by decide +kernel), by decide +kernel, rfl⟩
theorem fl_Md_35 : nj_FL "NobodyJoinsModel" 35 6 16 (.array .int) true := ⟨_, rfl, by decide, nj_T0_in (List.mem_of_getElem? (i := 793) (by decide +kernel)) (by decide +kernel), by decide +kernel, rfl⟩
theorem fl_Md_119 : nj_FL "NobodyJoinsModel" 119 6 17 .int false := ⟨_, rfl, by decide, nj_T0_in (List.mem_of_getElem? (i := 794) (by decide +kernel)) (by decide +kernel), by decide +kernel, rfl⟩
theorem fl_Md_38 : nj_FL "NobodyJoinsModel" 38 6 18 (.array .int) true := ⟨_, rfl, by decide, nj_T0_in (List.mem_of_getElem? (i := 795) (by decide +kernel)) (by decide +kernel), by decide +kernel, rfl⟩
theorem fl_Md_122 : nj_FL "NobodyJoinsModel" 122 6 19 .int false := ⟨_, rfl, by decide, nj_T0_in (List.mem_of_getElem? (i := 796) (by decide +kernel)) (by decide +kernel), by decide +kernel, rfl⟩
theorem fl_Md_41 : nj_FL "NobodyJoinsModel" 41 6 20 (.array .int) true := ⟨_, rfl, by decide, nj_T0_in (List.mem_of_getElem? (i := 797) (by decide +kernel)) (by decide +kernel), by decide +kernel, rfl⟩
theorem fl_Md_44 : nj_FL "NobodyJoinsModel" 44 6 21 (.array .int) true := ⟨_, rfl, by decide, nj_T0_in (List.mem_of_getElem? (i := 798) (by decide +kernel)) (by decide +kernel), by decide +kernel, rfl⟩
theorem fl_Md_47 : nj_FL "NobodyJoinsModel" 47 6 22 (.array .long) true := ⟨_, rfl, by decide, nj_T0_in (List.mem_of_getElem? (i := 799) (by decide +kernel)) (by decide +kernel), by decide +kernel, rfl⟩
theorem ml_Md_66 : Cond.methodLink "NobodyJoinsModel" 66 ny_Md_isRow ∈ nj_T0 := nj_T0_in (List.mem_of_getElem? (i := 852) (by decide +kernel)) (by decide +kernel)
theorem ml_Md_60 : Cond.methodLink "NobodyJoinsModel" 60 ny_Md_in ∈ nj_T0 := nj_T0_in (List.mem_of_getElem? (i := 856) (by decide +kernel)) (by decide +kernel)
theorem ml_Md_70 : Cond.methodLink "NobodyJoinsModel" 70 ny_Md_find ∈ nj_T0 := nj_T0_in (List.mem_of_getElem? (i := 859) (by decide +kernel)) (by decide +kernel)
theorem ml_Md_74 : Cond.methodLink "NobodyJoinsModel" 74 ny_Md_makeRow ∈ nj_T0 := nj_T0_in (List.mem_of_getElem? (i := 863) (by decide +kernel)) (by decide +kernel)
theorem ml_Md_78 : Cond.methodLink "NobodyJoinsModel" 78 ny_Md_refused ∈ nj_T0 := nj_T0_in (List.mem_of_getElem? (i := 871) (by decide +kernel)) (by decide +kernel)
theorem ml_Md_82 : Cond.methodLink "NobodyJoinsModel" 82 ny_Md_tell ∈ nj_T0 := nj_T0_in (List.mem_of_getElem? (i := 875) (by decide +kernel)) (by decide +kernel)
theorem ml_Md_85 : Cond.methodLink "NobodyJoinsModel" 85 ny_Md_isSpan ∈ nj_T0 := nj_T0_in (List.mem_of_getElem? (i := 891) (by decide +kernel)) (by decide +kernel)
theorem ml_Md_89 : Cond.methodLink "NobodyJoinsModel" 89 ny_Md_isText ∈ nj_T0 := nj_T0_in (List.mem_of_getElem? (i := 903) (by decide +kernel)) (by decide +kernel)
theorem ml_Md_139 : Cond.methodLink "NobodyJoinsModel" 139 ny_Md_faultOf ∈ nj_T0 := nj_T0_in (List.mem_of_getElem? (i := 915) (by decide +kernel)) (by decide +kernel)
theorem ml_Md_129 : Cond.methodLink "NobodyJoinsModel" 129 ny_Md_readsRule ∈ nj_T0 := nj_T0_in (List.mem_of_getElem? (i := 919) (by decide +kernel)) (by decide +kernel)
theorem ml_Md_107 : Cond.methodLink "NobodyJoinsModel" 107 ny_Md_skip ∈ nj_T0 := nj_T0_in (List.mem_of_getElem? (i := 923) (by decide +kernel)) (by decide +kernel)
theorem ml_Md_101 : Cond.methodLink "NobodyJoinsModel" 101 ny_Md_here ∈ nj_T0 := nj_T0_in (List.mem_of_getElem? (i := 927) (by decide +kernel)) (by decide +kernel)
theorem ml_Md_110 : Cond.methodLink "NobodyJoinsModel" 110 ny_Md_figure ∈ nj_T0 := nj_T0_in (List.mem_of_getElem? (i := 931) (by decide +kernel)) (by decide +kernel)
theorem ml_Md_133 : Cond.methodLink "NobodyJoinsModel" 133 ny_Md_readsPair ∈ nj_T0 := nj_T0_in (List.mem_of_getElem? (i := 936) (by decide +kernel)) (by decide +kernel)
theorem ml_Md_125 : Cond.methodLink "NobodyJoinsModel" 125 ny_Md_has ∈ nj_T0 := nj_T0_in (List.mem_of_getElem? (i := 940) (by decide +kernel)) (by decide +kernel)
theorem ml_Md_136 : Cond.methodLink "NobodyJoinsModel" 136 ny_Md_readsChild ∈ nj_T0 := nj_T0_in (List.mem_of_getElem? (i := 943) (by decide +kernel)) (by decide +kernel)
theorem ml_Md_116 : Cond.methodLink "NobodyJoinsModel" 116 ny_Md_kindOfLetter ∈ nj_T0 := nj_T0_in (List.mem_of_getElem? (i := 947) (by decide +kernel)) (by decide +kernel)
theorem ml_Md_175 : Cond.methodLink "NobodyJoinsModel" 175 ny_Md_isChild ∈ nj_T0 := nj_T0_in (List.mem_of_getElem? (i := 958) (by decide +kernel)) (by decide +kernel)
theorem ml_Md_178 : Cond.methodLink "NobodyJoinsModel" 178 ny_Md_toldOf ∈ nj_T0 := nj_T0_in (List.mem_of_getElem? (i := 962) (by decide +kernel)) (by decide +kernel)
theorem ml_Md_145 : Cond.methodLink "NobodyJoinsModel" 145 ny_Md_votes ∈ nj_T0 := nj_T0_in (List.mem_of_getElem? (i := 966) (by decide +kernel)) (by decide +kernel)
theorem ml_Md_172 : Cond.methodLink "NobodyJoinsModel" 172 ny_Md_likedBy ∈ nj_T0 := nj_T0_in (List.mem_of_getElem? (i := 970) (by decide +kernel)) (by decide +kernel)
theorem ml_Md_151 : Cond.methodLink "NobodyJoinsModel" 151 ny_Md_liking ∈ nj_T0 := nj_T0_in (List.mem_of_getElem? (i := 974) (by decide +kernel)) (by decide +kernel)
theorem ml_Md_148 : Cond.methodLink "NobodyJoinsModel" 148 ny_Md_likes ∈ nj_T0 := nj_T0_in (List.mem_of_getElem? (i := 978) (by decide +kernel)) (by decide +kernel)
theorem ml_Md_181 : Cond.methodLink "NobodyJoinsModel" 181 ny_Md_isOf ∈ nj_T0 := nj_T0_in (List.mem_of_getElem? (i := 986) (by decide +kernel)) (by decide +kernel)
theorem ml_Md_184 : Cond.methodLink "NobodyJoinsModel" 184 ny_Md_bits ∈ nj_T0 := nj_T0_in (List.mem_of_getElem? (i := 990) (by decide +kernel)) (by decide +kernel)
theorem ml_Md_190 : Cond.methodLink "NobodyJoinsModel" 190 ny_Md_outs ∈ nj_T0 := nj_T0_in (List.mem_of_getElem? (i := 1001) (by decide +kernel)) (by decide +kernel)
theorem ml_Md_166 : Cond.methodLink "NobodyJoinsModel" 166 ny_Md_isOut ∈ nj_T0 := nj_T0_in (List.mem_of_getElem? (i := 1005) (by decide +kernel)) (by decide +kernel)
theorem ml_Md_160 : Cond.methodLink "NobodyJoinsModel" 160 ny_Md_ofKind ∈ nj_T0 := nj_T0_in (List.mem_of_getElem? (i := 1009) (by decide +kernel)) (by decide +kernel)
theorem ml_Md_163 : Cond.methodLink "NobodyJoinsModel" 163 ny_Md_isAgainst ∈ nj_T0 := nj_T0_in (List.mem_of_getElem? (i := 1013) (by decide +kernel)) (by decide +kernel)
theorem ml_Md_157 : Cond.methodLink "NobodyJoinsModel" 157 ny_Md_yesFor ∈ nj_T0 := nj_T0_in (List.mem_of_getElem? (i := 1017) (by decide +kernel)) (by decide +kernel)
theorem ml_Md_154 : Cond.methodLink "NobodyJoinsModel" 154 ny_Md_votesOf ∈ nj_T0 := nj_T0_in (List.mem_of_getElem? (i := 1021) (by decide +kernel)) (by decide +kernel)
theorem ml_Md_193 : Cond.methodLink "NobodyJoinsModel" 193 ny_Md_doTurn ∈ nj_T0 := nj_T0_in (List.mem_of_getElem? (i := 1025) (by decide +kernel)) (by decide +kernel)
theorem ml_Md_187 : Cond.methodLink "NobodyJoinsModel" 187 ny_Md_keepPast ∈ nj_T0 := nj_T0_in (List.mem_of_getElem? (i := 1029) (by decide +kernel)) (by decide +kernel)
theorem ml_Md_196 : Cond.methodLink "NobodyJoinsModel" 196 ny_Md_mayJoin ∈ nj_T0 := nj_T0_in (List.mem_of_getElem? (i := 1037) (by decide +kernel)) (by decide +kernel)
theorem ml_Md_169 : Cond.methodLink "NobodyJoinsModel" 169 ny_Md_isIn ∈ nj_T0 := nj_T0_in (List.mem_of_getElem? (i := 1041) (by decide +kernel)) (by decide +kernel)
theorem ml_Md_199 : Cond.methodLink "NobodyJoinsModel" 199 ny_Md_doFee ∈ nj_T0 := nj_T0_in (List.mem_of_getElem? (i := 1049) (by decide +kernel)) (by decide +kernel)
theorem ml_Md_202 : Cond.methodLink "NobodyJoinsModel" 202 ny_Md_areTwo ∈ nj_T0 := nj_T0_in (List.mem_of_getElem? (i := 1057) (by decide +kernel)) (by decide +kernel)
theorem ml_Md_205 : Cond.methodLink "NobodyJoinsModel" 205 ny_Md_doGrudge ∈ nj_T0 := nj_T0_in (List.mem_of_getElem? (i := 1061) (by decide +kernel)) (by decide +kernel)
theorem ml_Md_210 : Cond.methodLink "NobodyJoinsModel" 210 ny_Md_copyClub ∈ nj_T0 := nj_T0_in (List.mem_of_getElem? (i := 1074) (by decide +kernel)) (by decide +kernel)
theorem ml_Md_213 : Cond.methodLink "NobodyJoinsModel" 213 ny_Md_layOuts ∈ nj_T0 := nj_T0_in (List.mem_of_getElem? (i := 1102) (by decide +kernel)) (by decide +kernel)
theorem ml_Md_219 : Cond.methodLink "NobodyJoinsModel" 219 ny_Md_tellMany ∈ nj_T0 := nj_T0_in (List.mem_of_getElem? (i := 1110) (by decide +kernel)) (by decide +kernel)
theorem ml_Md_223 : Cond.methodLink "NobodyJoinsModel" 223 ny_Md_noRow ∈ nj_T0 := nj_T0_in (List.mem_of_getElem? (i := 1126) (by decide +kernel)) (by decide +kernel)
theorem ml_Md_226 : Cond.methodLink "NobodyJoinsModel" 226 ny_Md_isGrudge ∈ nj_T0 := nj_T0_in (List.mem_of_getElem? (i := 1138) (by decide +kernel)) (by decide +kernel)
theorem ml_Md_229 : Cond.methodLink "NobodyJoinsModel" 229 ny_Md_turnLike ∈ nj_T0 := nj_T0_in (List.mem_of_getElem? (i := 1142) (by decide +kernel)) (by decide +kernel)
theorem ml_Md_233 : Cond.methodLink "NobodyJoinsModel" 233 ny_Md_orders ∈ nj_T0 := nj_T0_in (List.mem_of_getElem? (i := 1150) (by decide +kernel)) (by decide +kernel)
theorem ml_Md_236 : Cond.methodLink "NobodyJoinsModel" 236 ny_Md_tellParts ∈ nj_T0 := nj_T0_in (List.mem_of_getElem? (i := 1153) (by decide +kernel)) (by decide +kernel)
theorem ml_Md_240 : Cond.methodLink "NobodyJoinsModel" 240 ny_Md_shareOf ∈ nj_T0 := nj_T0_in (List.mem_of_getElem? (i := 1161) (by decide +kernel)) (by decide +kernel)
theorem ml_Md_243 : Cond.methodLink "NobodyJoinsModel" 243 ny_Md_likings ∈ nj_T0 := nj_T0_in (List.mem_of_getElem? (i := 1177) (by decide +kernel)) (by decide +kernel)
theorem ml_Md_266 : Cond.methodLink "NobodyJoinsModel" 266 ny_Md_countOf ∈ nj_T0 := nj_T0_in (List.mem_of_getElem? (i := 1212) (by decide +kernel)) (by decide +kernel)
theorem ml_Md_258 : Cond.methodLink "NobodyJoinsModel" 258 ny_Md_presidents ∈ nj_T0 := nj_T0_in (List.mem_of_getElem? (i := 1216) (by decide +kernel)) (by decide +kernel)
theorem ml_Md_261 : Cond.methodLink "NobodyJoinsModel" 261 ny_Md_thereOf ∈ nj_T0 := nj_T0_in (List.mem_of_getElem? (i := 1220) (by decide +kernel)) (by decide +kernel)
theorem kl_Md_58 : Cond.constantLong "NobodyJoinsModel" 58 5 ∈ nj_T0 := nj_T0_in (List.mem_of_getElem? (i := 855) (by decide +kernel)) (by decide +kernel)
theorem kl_Md_64 : Cond.constantLong "NobodyJoinsModel" 64 3 ∈ nj_T0 := nj_T0_in (List.mem_of_getElem? (i := 906) (by decide +kernel)) (by decide +kernel)
theorem kl_Md_105 : Cond.constantLong "NobodyJoinsModel" 105 48 ∈ nj_T0 := nj_T0_in (List.mem_of_getElem? (i := 935) (by decide +kernel)) (by decide +kernel)
theorem kl_Md_208 : Cond.constantLong "NobodyJoinsModel" 208 2 ∈ nj_T0 := nj_T0_in (List.mem_of_getElem? (i := 1073) (by decide +kernel)) (by decide +kernel)
theorem kl_Md_246 : Cond.constantLong "NobodyJoinsModel" 246 12 ∈ nj_T0 := nj_T0_in (List.mem_of_getElem? (i := 1185) (by decide +kernel)) (by decide +kernel)
theorem kl_Md_248 : Cond.constantLong "NobodyJoinsModel" 248 20 ∈ nj_T0 := nj_T0_in (List.mem_of_getElem? (i := 1190) (by decide +kernel)) (by decide +kernel)
theorem kl_Md_250 : Cond.constantLong "NobodyJoinsModel" 250 2147483646 ∈ nj_T0 := nj_T0_in (List.mem_of_getElem? (i := 1191) (by decide +kernel)) (by decide +kernel)
theorem kl_Md_252 : Cond.constantLong "NobodyJoinsModel" 252 48271 ∈ nj_T0 := nj_T0_in (List.mem_of_getElem? (i := 1192) (by decide +kernel)) (by decide +kernel)
theorem kl_Md_254 : Cond.constantLong "NobodyJoinsModel" 254 2147483647 ∈ nj_T0 := nj_T0_in (List.mem_of_getElem? (i := 1193) (by decide +kernel)) (by decide +kernel)
theorem kl_Md_256 : Cond.constantLong "NobodyJoinsModel" 256 16 ∈ nj_T0 := nj_T0_in (List.mem_of_getElem? (i := 1194) (by decide +kernel)) (by decide +kernel)
theorem kl_Md_264 : Cond.constantLong "NobodyJoinsModel" 264 8 ∈ nj_T0 := nj_T0_in (List.mem_of_getElem? (i := 1211) (by decide +kernel)) (by decide +kernel)
theorem kl_Md_269 : Cond.constantLong "NobodyJoinsModel" 269 17 ∈ nj_T0 := nj_T0_in (List.mem_of_getElem? (i := 1236) (by decide +kernel)) (by decide +kernel)
theorem kl_Md_271 : Cond.constantLong "NobodyJoinsModel" 271 31 ∈ nj_T0 := nj_T0_in (List.mem_of_getElem? (i := 1237) (by decide +kernel)) (by decide +kernel)
