def wsX8_lay_r1 : List Cond := [Cond.constant RX8 163 (-1000002), Cond.constantLong RX8 208 (-1), Cond.constantLong RX8 210 (4), Cond.constant RX8 70 (-1000001), Cond.constant RX8 207 (1000000), Cond.fieldLink RX8 19 "BuriedHalvesModel" "now" "[I", Cond.fieldLink RX8 50 "BuriedHalvesModel" "best" "[I", Cond.fieldLink RX8 47 "BuriedHalvesModel" "places" "[I", Cond.constant RX8 157 (-1000000), Cond.methodLink RX8 160 yX8_isMine, Cond.instanceMethod yX8_isMine, Cond.selects RX8 yX8_isMine yX8_isMine, Cond.initialized RX8, Cond.code yX8_isMine cX8_isMine 1 (some .boolean), Cond.methodLink RX8 194 yX8_isSpan, Cond.static yX8_isSpan, Cond.code yX8_isSpan cX8_isSpan 1 (some .boolean), Cond.constantLong RX8 158 (60), Cond.methodLink RX8 60 yX8_in, Cond.static yX8_in, Cond.code yX8_in cX8_in 6 (some .boolean), Cond.methodLink RX8 212 yX8_layPlaces, Cond.instanceMethod yX8_layPlaces, Cond.selects RX8 yX8_layPlaces yX8_layPlaces]
def wsX8_lay_r2 : List Cond := [Cond.code yX8_layPlaces cX8_layPlaces 6 (some .int), Cond.fieldLink RX8 25 "BuriedHalvesModel" "aside" "[I", Cond.methodLink RX8 197 yX8_layAside, Cond.instanceMethod yX8_layAside, Cond.selects RX8 yX8_layAside yX8_layAside, Cond.code yX8_layAside cX8_layAside 1 none, Cond.methodLink RX8 135 yX8_copies, Cond.static yX8_copies, Cond.code yX8_copies cX8_copies 5 none, Cond.methodLink RX8 142 yX8_lies, Cond.static yX8_lies, Cond.code yX8_lies cX8_lies 2 (some .boolean), Cond.methodLink RX8 215 yX8_rests, Cond.instanceMethod yX8_rests, Cond.selects RX8 yX8_rests yX8_rests, Cond.code yX8_rests cX8_rests 4 (some .boolean), Cond.methodLink RX8 173 yX8_upOf, Cond.static yX8_upOf, Cond.code yX8_upOf cX8_upOf 3 (some .int), Cond.methodLink RX8 204 yX8_twoOf, Cond.static yX8_twoOf, Cond.code yX8_twoOf cX8_twoOf 3 (some .int), Cond.methodLink RX8 153 yX8_tooNear, Cond.static yX8_tooNear]
def wsX8_lay_r3 : List Cond := [Cond.code yX8_tooNear cX8_tooNear 3 (some .boolean), Cond.methodLink RX8 150 yX8_abs, Cond.static yX8_abs, Cond.code yX8_abs cX8_abs 1 (some .int), Cond.methodLink RX8 200 yX8_go, Cond.instanceMethod yX8_go, Cond.selects RX8 yX8_go yX8_go, Cond.code yX8_go cX8_go 3 none, Cond.methodLink RX8 169 yX8_yearGoes, Cond.instanceMethod yX8_yearGoes, Cond.selects RX8 yX8_yearGoes yX8_yearGoes, Cond.code yX8_yearGoes cX8_yearGoes 3 none, Cond.fieldLink RX8 44 "BuriedHalvesModel" "rise" "[I", Cond.methodLink RX8 146 yX8_rises, Cond.static yX8_rises, Cond.code yX8_rises cX8_rises 6 (some .int), Cond.methodLink RX8 177 yX8_isThing, Cond.instanceMethod yX8_isThing, Cond.selects RX8 yX8_isThing yX8_isThing, Cond.code yX8_isThing cX8_isThing 2 (some .boolean)]
def wsX8_lay : List Cond := .code yX8_lay cX8_lay 7 (some .int) :: ((wsX8_lay_r1 ++ (wsX8_lay_r2 ++ wsX8_lay_r3)) ++ wsX80)
def wsX8_dig_r1 : List Cond := [Cond.constant RX8 70 (-1000001), Cond.fieldLink RX8 25 "BuriedHalvesModel" "aside" "[I", Cond.constant RX8 157 (-1000000), Cond.methodLink RX8 177 yX8_isThing, Cond.instanceMethod yX8_isThing, Cond.selects RX8 yX8_isThing yX8_isThing, Cond.initialized RX8, Cond.code yX8_isThing cX8_isThing 2 (some .boolean), Cond.fieldLink RX8 19 "BuriedHalvesModel" "now" "[I", Cond.methodLink RX8 60 yX8_in, Cond.static yX8_in, Cond.code yX8_in cX8_in 6 (some .boolean), Cond.methodLink RX8 194 yX8_isSpan, Cond.static yX8_isSpan, Cond.code yX8_isSpan cX8_isSpan 1 (some .boolean), Cond.constantLong RX8 158 (60), Cond.methodLink RX8 197 yX8_layAside, Cond.instanceMethod yX8_layAside, Cond.selects RX8 yX8_layAside yX8_layAside, Cond.code yX8_layAside cX8_layAside 1 none, Cond.methodLink RX8 135 yX8_copies, Cond.static yX8_copies, Cond.code yX8_copies cX8_copies 5 none, Cond.methodLink RX8 200 yX8_go]
def wsX8_dig_r2 : List Cond := [Cond.instanceMethod yX8_go, Cond.selects RX8 yX8_go yX8_go, Cond.code yX8_go cX8_go 3 none, Cond.methodLink RX8 169 yX8_yearGoes, Cond.instanceMethod yX8_yearGoes, Cond.selects RX8 yX8_yearGoes yX8_yearGoes, Cond.code yX8_yearGoes cX8_yearGoes 3 none, Cond.fieldLink RX8 44 "BuriedHalvesModel" "rise" "[I", Cond.methodLink RX8 146 yX8_rises, Cond.static yX8_rises, Cond.code yX8_rises cX8_rises 6 (some .int), Cond.methodLink RX8 142 yX8_lies, Cond.static yX8_lies, Cond.code yX8_lies cX8_lies 2 (some .boolean)]
def wsX8_dig : List Cond := .code yX8_dig cX8_dig 4 (some .int) :: ((wsX8_dig_r1 ++ wsX8_dig_r2) ++ wsX80)
def wsX8_whom : List Cond := .code yX8_whom cX8_whom 6 (some .int) :: ([.constant RX8 163 (-1000002), .constant RX8 70 (-1000001), .constant RX8 157 (-1000000), .fieldLink RX8 19 "BuriedHalvesModel" "now" "[I", .methodLink RX8 160 yX8_isMine, .instanceMethod yX8_isMine, .selects RX8 yX8_isMine yX8_isMine, .initialized RX8, .code yX8_isMine cX8_isMine 1 (some .boolean), .methodLink RX8 184 yX8_isTwo, .static yX8_isTwo, .code yX8_isTwo cX8_isTwo 1 (some .boolean), .methodLink RX8 60 yX8_in, .static yX8_in, .code yX8_in cX8_in 6 (some .boolean), .methodLink RX8 218 yX8_bits, .static yX8_bits, .code yX8_bits cX8_bits 3 (some .int)] ++ wsX80)
def wsX8_halves : List Cond := .code yX8_halves cX8_halves 7 (some .int) :: ([.constant RX8 163 (-1000002), .constant RX8 70 (-1000001), .constant RX8 157 (-1000000), .fieldLink RX8 19 "BuriedHalvesModel" "now" "[I", .methodLink RX8 160 yX8_isMine, .instanceMethod yX8_isMine, .selects RX8 yX8_isMine yX8_isMine, .initialized RX8, .code yX8_isMine cX8_isMine 1 (some .boolean), .methodLink RX8 184 yX8_isTwo, .static yX8_isTwo, .code yX8_isTwo cX8_isTwo 1 (some .boolean), .methodLink RX8 60 yX8_in, .static yX8_in, .code yX8_in cX8_in 6 (some .boolean)] ++ wsX80)
def wsX8_comes_r1 : List Cond := [Cond.fieldLink RX8 16 "BuriedHalvesModel" "items" "[I", Cond.fieldLink RX8 25 "BuriedHalvesModel" "aside" "[I", Cond.methodLink RX8 200 yX8_go, Cond.instanceMethod yX8_go, Cond.selects RX8 yX8_go yX8_go, Cond.initialized RX8, Cond.code yX8_go cX8_go 3 none, Cond.methodLink RX8 169 yX8_yearGoes, Cond.instanceMethod yX8_yearGoes, Cond.selects RX8 yX8_yearGoes yX8_yearGoes, Cond.code yX8_yearGoes cX8_yearGoes 3 none, Cond.fieldLink RX8 44 "BuriedHalvesModel" "rise" "[I", Cond.methodLink RX8 146 yX8_rises, Cond.static yX8_rises, Cond.code yX8_rises cX8_rises 6 (some .int), Cond.methodLink RX8 142 yX8_lies, Cond.static yX8_lies, Cond.code yX8_lies cX8_lies 2 (some .boolean), Cond.methodLink RX8 191 yX8_nearTo, Cond.static yX8_nearTo, Cond.code yX8_nearTo cX8_nearTo 4 (some .int), Cond.methodLink RX8 153 yX8_tooNear, Cond.static yX8_tooNear, Cond.code yX8_tooNear cX8_tooNear 3 (some .boolean)]
def wsX8_comes_r2 : List Cond := [Cond.methodLink RX8 150 yX8_abs, Cond.static yX8_abs, Cond.code yX8_abs cX8_abs 1 (some .int)]
def wsX8_comes : List Cond := .code yX8_comes cX8_comes 7 (some .boolean) :: ((wsX8_comes_r1 ++ wsX8_comes_r2) ++ wsX80)
def wsX8_fits_r1 : List Cond := [Cond.constantLong RX8 221 (16), Cond.constantLong RX8 68 (2), Cond.constant RX8 70 (-1000001), Cond.fieldLink RX8 13 "BuriedHalvesModel" "sizes" "[I", Cond.fieldLink RX8 25 "BuriedHalvesModel" "aside" "[I", Cond.methodLink RX8 177 yX8_isThing, Cond.instanceMethod yX8_isThing, Cond.selects RX8 yX8_isThing yX8_isThing, Cond.initialized RX8, Cond.code yX8_isThing cX8_isThing 2 (some .boolean), Cond.fieldLink RX8 19 "BuriedHalvesModel" "now" "[I", Cond.methodLink RX8 60 yX8_in, Cond.static yX8_in, Cond.code yX8_in cX8_in 6 (some .boolean), Cond.methodLink RX8 64 yX8_isRow, Cond.static yX8_isRow, Cond.code yX8_isRow cX8_isRow 1 (some .boolean), Cond.constantLong RX8 58 (7), Cond.methodLink RX8 71 yX8_found, Cond.instanceMethod yX8_found, Cond.selects RX8 yX8_found yX8_found, Cond.code yX8_found cX8_found 2 (some .int), Cond.fieldLink RX8 53 "BuriedHalvesModel" "status" "I", Cond.constant RX8 57 (-1000010)]
def wsX8_fits_r2 : List Cond := [Cond.methodLink RX8 197 yX8_layAside, Cond.instanceMethod yX8_layAside, Cond.selects RX8 yX8_layAside yX8_layAside, Cond.code yX8_layAside cX8_layAside 1 none, Cond.methodLink RX8 135 yX8_copies, Cond.static yX8_copies, Cond.code yX8_copies cX8_copies 5 none, Cond.methodLink RX8 223 yX8_comes, Cond.instanceMethod yX8_comes, Cond.selects RX8 yX8_comes yX8_comes, Cond.code yX8_comes cX8_comes 7 (some .boolean), Cond.fieldLink RX8 16 "BuriedHalvesModel" "items" "[I", Cond.methodLink RX8 200 yX8_go, Cond.instanceMethod yX8_go, Cond.selects RX8 yX8_go yX8_go, Cond.code yX8_go cX8_go 3 none, Cond.methodLink RX8 169 yX8_yearGoes, Cond.instanceMethod yX8_yearGoes, Cond.selects RX8 yX8_yearGoes yX8_yearGoes, Cond.code yX8_yearGoes cX8_yearGoes 3 none, Cond.fieldLink RX8 44 "BuriedHalvesModel" "rise" "[I", Cond.methodLink RX8 146 yX8_rises, Cond.static yX8_rises, Cond.code yX8_rises cX8_rises 6 (some .int)]
def wsX8_fits_r3 : List Cond := [Cond.methodLink RX8 142 yX8_lies, Cond.static yX8_lies, Cond.code yX8_lies cX8_lies 2 (some .boolean), Cond.methodLink RX8 191 yX8_nearTo, Cond.static yX8_nearTo, Cond.code yX8_nearTo cX8_nearTo 4 (some .int), Cond.methodLink RX8 153 yX8_tooNear, Cond.static yX8_tooNear, Cond.code yX8_tooNear cX8_tooNear 3 (some .boolean), Cond.methodLink RX8 150 yX8_abs, Cond.static yX8_abs, Cond.code yX8_abs cX8_abs 1 (some .int), Cond.methodLink RX8 75 yX8_well, Cond.instanceMethod yX8_well, Cond.selects RX8 yX8_well yX8_well, Cond.code yX8_well cX8_well 2 (some .int)]
def wsX8_fits : List Cond := .code yX8_fits cX8_fits 11 (some .int) :: ((wsX8_fits_r1 ++ (wsX8_fits_r2 ++ wsX8_fits_r3)) ++ wsX80)
def wsX8_moles_r1 : List Cond := [Cond.constant RX8 163 (-1000002), Cond.constantLong RX8 227 (10), Cond.constant RX8 70 (-1000001), Cond.fieldLink RX8 19 "BuriedHalvesModel" "now" "[I", Cond.fieldLink RX8 25 "BuriedHalvesModel" "aside" "[I", Cond.methodLink RX8 160 yX8_isMine, Cond.instanceMethod yX8_isMine, Cond.selects RX8 yX8_isMine yX8_isMine, Cond.initialized RX8, Cond.code yX8_isMine cX8_isMine 1 (some .boolean), Cond.methodLink RX8 194 yX8_isSpan, Cond.static yX8_isSpan, Cond.code yX8_isSpan cX8_isSpan 1 (some .boolean), Cond.constantLong RX8 158 (60), Cond.methodLink RX8 60 yX8_in, Cond.static yX8_in, Cond.code yX8_in cX8_in 6 (some .boolean), Cond.methodLink RX8 184 yX8_isTwo, Cond.static yX8_isTwo, Cond.code yX8_isTwo cX8_isTwo 1 (some .boolean), Cond.methodLink RX8 173 yX8_upOf, Cond.static yX8_upOf, Cond.code yX8_upOf cX8_upOf 3 (some .int), Cond.methodLink RX8 142 yX8_lies]
def wsX8_moles_r2 : List Cond := [Cond.static yX8_lies, Cond.code yX8_lies cX8_lies 2 (some .boolean), Cond.methodLink RX8 187 yX8_has, Cond.static yX8_has, Cond.code yX8_has cX8_has 2 (some .boolean), Cond.methodLink RX8 197 yX8_layAside, Cond.instanceMethod yX8_layAside, Cond.selects RX8 yX8_layAside yX8_layAside, Cond.code yX8_layAside cX8_layAside 1 none, Cond.methodLink RX8 135 yX8_copies, Cond.static yX8_copies, Cond.code yX8_copies cX8_copies 5 none, Cond.methodLink RX8 200 yX8_go, Cond.instanceMethod yX8_go, Cond.selects RX8 yX8_go yX8_go, Cond.code yX8_go cX8_go 3 none, Cond.methodLink RX8 169 yX8_yearGoes, Cond.instanceMethod yX8_yearGoes, Cond.selects RX8 yX8_yearGoes yX8_yearGoes, Cond.code yX8_yearGoes cX8_yearGoes 3 none, Cond.fieldLink RX8 44 "BuriedHalvesModel" "rise" "[I", Cond.methodLink RX8 146 yX8_rises, Cond.static yX8_rises, Cond.code yX8_rises cX8_rises 6 (some .int)]
def wsX8_moles : List Cond := .code yX8_moles cX8_moles 16 (some .int) :: ((wsX8_moles_r1 ++ wsX8_moles_r2) ++ wsX80)
def wsX8_image : List Cond := .code yX8_image cX8_image 2 (some .int) :: ([.constant RX8 70 (-1000001), .constant RX8 163 (-1000002), .fieldLink RX8 19 "BuriedHalvesModel" "now" "[I", .fieldLink RX8 31 "BuriedHalvesModel" "images" "[I", .fieldLink RX8 34 "BuriedHalvesModel" "kept" "[Z", .methodLink RX8 184 yX8_isTwo, .static yX8_isTwo, .initialized RX8, .code yX8_isTwo cX8_isTwo 1 (some .boolean), .methodLink RX8 60 yX8_in, .static yX8_in, .code yX8_in cX8_in 6 (some .boolean), .methodLink RX8 160 yX8_isMine, .instanceMethod yX8_isMine, .selects RX8 yX8_isMine yX8_isMine, .code yX8_isMine cX8_isMine 1 (some .boolean), .methodLink RX8 135 yX8_copies, .static yX8_copies, .code yX8_copies cX8_copies 5 none] ++ wsX80)
def wsX8_restore : List Cond := .code yX8_restore cX8_restore 2 (some .int) :: ([.constant RX8 70 (-1000001), .fieldLink RX8 34 "BuriedHalvesModel" "kept" "[Z", .constant RX8 163 (-1000002), .fieldLink RX8 31 "BuriedHalvesModel" "images" "[I", .fieldLink RX8 19 "BuriedHalvesModel" "now" "[I", .fieldLink RX8 139 "BuriedHalvesModel" "acts" "I", .methodLink RX8 184 yX8_isTwo, .static yX8_isTwo, .initialized RX8, .code yX8_isTwo cX8_isTwo 1 (some .boolean), .methodLink RX8 60 yX8_in, .static yX8_in, .code yX8_in cX8_in 6 (some .boolean), .methodLink RX8 135 yX8_copies, .static yX8_copies, .code yX8_copies cX8_copies 5 none] ++ wsX80)
def wsX8_kind : List Cond := .code yX8_kind cX8_kind 2 (some .int) :: ([.fieldLink RX8 19 "BuriedHalvesModel" "now" "[I", .constant RX8 70 (-1000001), .methodLink RX8 177 yX8_isThing, .instanceMethod yX8_isThing, .selects RX8 yX8_isThing yX8_isThing, .initialized RX8, .code yX8_isThing cX8_isThing 2 (some .boolean), .methodLink RX8 60 yX8_in, .static yX8_in, .code yX8_in cX8_in 6 (some .boolean)] ++ wsX80)
def wsX8_isOf : List Cond := .code yX8_isOf cX8_isOf 2 (some .boolean) :: ([])
def wsX8_as : List Cond := .code yX8_as cX8_as 3 (some .int) :: ([.constantLong RX8 229 (5), .constant RX8 70 (-1000001), .fieldLink RX8 19 "BuriedHalvesModel" "now" "[I", .methodLink RX8 177 yX8_isThing, .instanceMethod yX8_isThing, .selects RX8 yX8_isThing yX8_isThing, .initialized RX8, .code yX8_isThing cX8_isThing 2 (some .boolean), .methodLink RX8 60 yX8_in, .static yX8_in, .code yX8_in cX8_in 6 (some .boolean), .methodLink RX8 231 yX8_isOf, .static yX8_isOf, .code yX8_isOf cX8_isOf 2 (some .boolean), .methodLink RX8 75 yX8_well, .instanceMethod yX8_well, .selects RX8 yX8_well yX8_well, .code yX8_well cX8_well 2 (some .int), .fieldLink RX8 53 "BuriedHalvesModel" "status" "I", .methodLink RX8 71 yX8_found, .instanceMethod yX8_found, .selects RX8 yX8_found yX8_found, .code yX8_found cX8_found 2 (some .int), .constant RX8 57 (-1000010)] ++ wsX80)
def wsX8_leave : List Cond := .code yX8_leave cX8_leave 7 none :: ([.constantLong RX8 234 (100), .fieldLink RX8 41 "BuriedHalvesModel" "trace" "[I", .fieldLink RX8 236 "BuriedHalvesModel" "traced" "I"] ++ wsX80)
def wsX8_mark : List Cond := .code yX8_mark cX8_mark 4 (some .int) :: ([.fieldLink RX8 19 "BuriedHalvesModel" "now" "[I", .constantLong RX8 239 (242120), .constantLong RX8 241 (222120), .constantLong RX8 243 (2120), .methodLink RX8 245 yX8_leave, .instanceMethod yX8_leave, .selects RX8 yX8_leave yX8_leave, .initialized RX8, .code yX8_leave cX8_leave 7 none, .constantLong RX8 234 (100), .fieldLink RX8 41 "BuriedHalvesModel" "trace" "[I", .fieldLink RX8 236 "BuriedHalvesModel" "traced" "I"] ++ wsX80)
def wsX8_sizeOf : List Cond := .code yX8_sizeOf cX8_sizeOf 4 (some .int) :: ([.fieldLink RX8 19 "BuriedHalvesModel" "now" "[I", .constantLong RX8 249 (141310), .constantLong RX8 251 (1310), .methodLink RX8 245 yX8_leave, .instanceMethod yX8_leave, .selects RX8 yX8_leave yX8_leave, .initialized RX8, .code yX8_leave cX8_leave 7 none, .constantLong RX8 234 (100), .fieldLink RX8 41 "BuriedHalvesModel" "trace" "[I", .fieldLink RX8 236 "BuriedHalvesModel" "traced" "I"] ++ wsX80)
def wsX8_ask_r1 : List Cond := [Cond.constant RX8 70 (-1000001), Cond.fieldLink RX8 236 "BuriedHalvesModel" "traced" "I", Cond.fieldLink RX8 19 "BuriedHalvesModel" "now" "[I", Cond.constantLong RX8 256 (121110), Cond.constantLong RX8 258 (1110), Cond.constantLong RX8 263 (2320), Cond.methodLink RX8 177 yX8_isThing, Cond.instanceMethod yX8_isThing, Cond.selects RX8 yX8_isThing yX8_isThing, Cond.initialized RX8, Cond.code yX8_isThing cX8_isThing 2 (some .boolean), Cond.methodLink RX8 60 yX8_in, Cond.static yX8_in, Cond.code yX8_in cX8_in 6 (some .boolean), Cond.methodLink RX8 184 yX8_isTwo, Cond.static yX8_isTwo, Cond.code yX8_isTwo cX8_isTwo 1 (some .boolean), Cond.methodLink RX8 253 yX8_mark, Cond.instanceMethod yX8_mark, Cond.selects RX8 yX8_mark yX8_mark, Cond.code yX8_mark cX8_mark 4 (some .int), Cond.constantLong RX8 239 (242120), Cond.constantLong RX8 241 (222120), Cond.constantLong RX8 243 (2120)]
def wsX8_ask_r2 : List Cond := [Cond.methodLink RX8 245 yX8_leave, Cond.instanceMethod yX8_leave, Cond.selects RX8 yX8_leave yX8_leave, Cond.code yX8_leave cX8_leave 7 none, Cond.constantLong RX8 234 (100), Cond.fieldLink RX8 41 "BuriedHalvesModel" "trace" "[I", Cond.methodLink RX8 260 yX8_sizeOf, Cond.instanceMethod yX8_sizeOf, Cond.selects RX8 yX8_sizeOf yX8_sizeOf, Cond.code yX8_sizeOf cX8_sizeOf 4 (some .int), Cond.constantLong RX8 249 (141310), Cond.constantLong RX8 251 (1310)]
def wsX8_ask : List Cond := .code yX8_ask cX8_ask 5 (some .int) :: ((wsX8_ask_r1 ++ wsX8_ask_r2) ++ wsX80)
def wsX8_trace : List Cond := .code yX8_trace cX8_trace 2 (some .int) :: ([.fieldLink RX8 236 "BuriedHalvesModel" "traced" "I", .fieldLink RX8 41 "BuriedHalvesModel" "trace" "[I", .constant RX8 157 (-1000000), .methodLink RX8 60 yX8_in, .static yX8_in, .initialized RX8, .code yX8_in cX8_in 6 (some .boolean)] ++ wsX80)
def wsX8_count : List Cond := .code yX8_count cX8_count 4 (some .int) :: ([.fieldLink RX8 13 "BuriedHalvesModel" "sizes" "[I", .fieldLink RX8 19 "BuriedHalvesModel" "now" "[I", .fieldLink RX8 139 "BuriedHalvesModel" "acts" "I", .fieldLink RX8 80 "BuriedHalvesModel" "size" "I", .constant RX8 70 (-1000001)] ++ wsX80)
def wsX8_status : List Cond := .code yX8_status cX8_status 1 (some .int) :: ([.fieldLink RX8 53 "BuriedHalvesModel" "status" "I"] ++ wsX80)
def wsJ9_abs_0f7a4 : List Cond := .code yJ9_abs_0f7a4 cJ9_abs_0f7a4 1 (some .int) :: ([])
def wsJ9_min_7cf53 : List Cond := .code yJ9_min_7cf53 cJ9_min_7cf53 2 (some .int) :: ([])
set_option maxRecDepth 20000 in
theorem ggX0_init_X3_init : GoodIn wsX0_init wsX3_init := goodIn_r _ [11, 12, 2, 3, 13, 14, 15, 16, 17, 18, 19, 20, 21, 22, 23, 24, 25, 29, 30, 31, 32, 33, 34, 35, 36, 37, 38, 39, 40] (by decide +kernel) (by decide +kernel)
set_option maxRecDepth 20000 in
theorem gX0_init_X3_init_n24 : GoodIn wsX0_init (wsX3_init) := ggX0_init_X3_init
theorem dX0_init_0 : decode cX0_init 0 = .ok (.aload_n 0, 1) := by decide +kernel
theorem dX0_init_1 : decode cX0_init 1 = .ok (.invokespecial 3, 3) := by decide +kernel
theorem dX0_init_4 : decode cX0_init 4 = .ok (.aload_n 0, 1) := by decide +kernel
theorem dX0_init_5 : decode cX0_init 5 = .ok (.bipush 24, 2) := by decide +kernel
theorem dX0_init_7 : decode cX0_init 7 = .ok (.anewarray 9, 3) := by decide +kernel
theorem dX0_init_10 : decode cX0_init 10 = .ok (.putfield 11, 3) := by decide +kernel
theorem dX0_init_13 : decode cX0_init 13 = .ok (.aload_n 0, 1) := by decide +kernel
theorem dX0_init_14 : decode cX0_init 14 = .ok (.iconst 0, 1) := by decide +kernel
theorem dX0_init_15 : decode cX0_init 15 = .ok (.putfield 17, 3) := by decide +kernel
theorem dX0_init_18 : decode cX0_init 18 = .ok (.aload_n 0, 1) := by decide +kernel
theorem dX0_init_19 : decode cX0_init 19 = .ok (.iconst 0, 1) := by decide +kernel
theorem dX0_init_20 : decode cX0_init 20 = .ok (.putfield 21, 3) := by decide +kernel
theorem dX0_init_23 : decode cX0_init 23 = .ok (.iconst 0, 1) := by decide +kernel
theorem dX0_init_24 : decode cX0_init 24 = .ok (.istore_n 1, 1) := by decide +kernel
theorem dX0_init_25 : decode cX0_init 25 = .ok (.iload_n 1, 1) := by decide +kernel
theorem dX0_init_26 : decode cX0_init 26 = .ok (.bipush 24, 2) := by decide +kernel
theorem dX0_init_28 : decode cX0_init 28 = .ok (.if_icmp .ge 22, 3) := by decide +kernel
theorem dX0_init_31 : decode cX0_init 31 = .ok (.aload_n 0, 1) := by decide +kernel
theorem dX0_init_32 : decode cX0_init 32 = .ok (.getfield 11, 3) := by decide +kernel
theorem dX0_init_35 : decode cX0_init 35 = .ok (.iload_n 1, 1) := by decide +kernel
theorem dX0_init_36 : decode cX0_init 36 = .ok (.new 9, 3) := by decide +kernel
theorem dX0_init_39 : decode cX0_init 39 = .ok (.dup, 1) := by decide +kernel
theorem dX0_init_40 : decode cX0_init 40 = .ok (.invokespecial 24, 3) := by decide +kernel
theorem dX0_init_43 : decode cX0_init 43 = .ok (.aastore, 1) := by decide +kernel
theorem dX0_init_44 : decode cX0_init 44 = .ok (.iinc 1 1, 3) := by decide +kernel
theorem dX0_init_47 : decode cX0_init 47 = .ok (.goto (-22), 3) := by decide +kernel
theorem dX0_init_50 : decode cX0_init 50 = .ok (.return_, 1) := by decide +kernel
theorem dX0_forgetAll_0 : decode cX0_forgetAll 0 = .ok (.aload_n 0, 1) := by decide +kernel
theorem dX0_forgetAll_1 : decode cX0_forgetAll 1 = .ok (.iconst 0, 1) := by decide +kernel
theorem dX0_forgetAll_2 : decode cX0_forgetAll 2 = .ok (.putfield 21, 3) := by decide +kernel
theorem dX0_forgetAll_5 : decode cX0_forgetAll 5 = .ok (.return_, 1) := by decide +kernel
set_option maxRecDepth 20000 in
theorem ggX0_keep_X3_become : GoodIn wsX0_keep wsX3_become := goodIn_r _ [12, 13, 14, 15, 16, 17, 18, 19, 20, 21, 22, 23, 27, 28, 29, 30, 31, 32, 33, 34, 35, 36, 37, 38] (by decide +kernel) (by decide +kernel)
set_option maxRecDepth 20000 in
theorem gX0_keep_X3_become : GoodIn wsX0_keep (wsV RX0 25 RX3 yX3_become wsX3_become) := goodIn_app (goodIn_of _ (by decide +kernel)) ggX0_keep_X3_become
theorem dX0_keep_0 : decode cX0_keep 0 = .ok (.aload_n 0, 1) := by decide +kernel
theorem dX0_keep_1 : decode cX0_keep 1 = .ok (.getfield 11, 3) := by decide +kernel
theorem dX0_keep_4 : decode cX0_keep 4 = .ok (.aload_n 0, 1) := by decide +kernel
theorem dX0_keep_5 : decode cX0_keep 5 = .ok (.getfield 17, 3) := by decide +kernel
theorem dX0_keep_8 : decode cX0_keep 8 = .ok (.aaload, 1) := by decide +kernel
theorem dX0_keep_9 : decode cX0_keep 9 = .ok (.aload_n 1, 1) := by decide +kernel
theorem dX0_keep_10 : decode cX0_keep 10 = .ok (.invokevirtual 25, 3) := by decide +kernel
theorem dX0_keep_13 : decode cX0_keep 13 = .ok (.aload_n 0, 1) := by decide +kernel
theorem dX0_keep_14 : decode cX0_keep 14 = .ok (.aload_n 0, 1) := by decide +kernel
theorem dX0_keep_15 : decode cX0_keep 15 = .ok (.getfield 17, 3) := by decide +kernel
theorem dX0_keep_18 : decode cX0_keep 18 = .ok (.iconst 1, 1) := by decide +kernel
theorem dX0_keep_19 : decode cX0_keep 19 = .ok (.iadd, 1) := by decide +kernel
theorem dX0_keep_20 : decode cX0_keep 20 = .ok (.bipush 24, 2) := by decide +kernel
theorem dX0_keep_22 : decode cX0_keep 22 = .ok (.if_icmp .ge 12, 3) := by decide +kernel
theorem dX0_keep_25 : decode cX0_keep 25 = .ok (.aload_n 0, 1) := by decide +kernel
theorem dX0_keep_26 : decode cX0_keep 26 = .ok (.getfield 17, 3) := by decide +kernel
theorem dX0_keep_29 : decode cX0_keep 29 = .ok (.iconst 1, 1) := by decide +kernel
theorem dX0_keep_30 : decode cX0_keep 30 = .ok (.iadd, 1) := by decide +kernel
theorem dX0_keep_31 : decode cX0_keep 31 = .ok (.goto 4, 3) := by decide +kernel
theorem dX0_keep_34 : decode cX0_keep 34 = .ok (.iconst 0, 1) := by decide +kernel
theorem dX0_keep_35 : decode cX0_keep 35 = .ok (.putfield 17, 3) := by decide +kernel
theorem dX0_keep_38 : decode cX0_keep 38 = .ok (.aload_n 0, 1) := by decide +kernel
theorem dX0_keep_39 : decode cX0_keep 39 = .ok (.aload_n 0, 1) := by decide +kernel
theorem dX0_keep_40 : decode cX0_keep 40 = .ok (.getfield 21, 3) := by decide +kernel
theorem dX0_keep_43 : decode cX0_keep 43 = .ok (.iconst 1, 1) := by decide +kernel
theorem dX0_keep_44 : decode cX0_keep 44 = .ok (.iadd, 1) := by decide +kernel
theorem dX0_keep_45 : decode cX0_keep 45 = .ok (.bipush 24, 2) := by decide +kernel
theorem dX0_keep_47 : decode cX0_keep 47 = .ok (.invokestatic 29, 3) := by decide +kernel
theorem dX0_keep_50 : decode cX0_keep 50 = .ok (.putfield 21, 3) := by decide +kernel
theorem dX0_keep_53 : decode cX0_keep 53 = .ok (.return_, 1) := by decide +kernel
set_option maxRecDepth 20000 in
theorem ggX0_takeBack_X3_become : GoodIn wsX0_takeBack wsX3_become := goodIn_r _ [8, 9, 10, 11, 12, 13, 14, 15, 16, 17, 18, 19, 23, 24, 25, 26, 27, 28, 29, 30, 31, 32, 33, 34] (by decide +kernel) (by decide +kernel)
set_option maxRecDepth 20000 in
theorem gX0_takeBack_X3_become : GoodIn wsX0_takeBack (wsV RX0 25 RX3 yX3_become wsX3_become) := goodIn_app (goodIn_of _ (by decide +kernel)) ggX0_takeBack_X3_become
theorem dX0_takeBack_0 : decode cX0_takeBack 0 = .ok (.aload_n 0, 1) := by decide +kernel
theorem dX0_takeBack_1 : decode cX0_takeBack 1 = .ok (.getfield 21, 3) := by decide +kernel
theorem dX0_takeBack_4 : decode cX0_takeBack 4 = .ok (.ifCond .le 48, 3) := by decide +kernel
theorem dX0_takeBack_7 : decode cX0_takeBack 7 = .ok (.aload_n 0, 1) := by decide +kernel
theorem dX0_takeBack_8 : decode cX0_takeBack 8 = .ok (.aload_n 0, 1) := by decide +kernel
theorem dX0_takeBack_9 : decode cX0_takeBack 9 = .ok (.getfield 17, 3) := by decide +kernel
theorem dX0_takeBack_12 : decode cX0_takeBack 12 = .ok (.ifCond .le 12, 3) := by decide +kernel
theorem dX0_takeBack_15 : decode cX0_takeBack 15 = .ok (.aload_n 0, 1) := by decide +kernel
theorem dX0_takeBack_16 : decode cX0_takeBack 16 = .ok (.getfield 17, 3) := by decide +kernel
theorem dX0_takeBack_19 : decode cX0_takeBack 19 = .ok (.iconst 1, 1) := by decide +kernel
theorem dX0_takeBack_20 : decode cX0_takeBack 20 = .ok (.isub, 1) := by decide +kernel
theorem dX0_takeBack_21 : decode cX0_takeBack 21 = .ok (.goto 5, 3) := by decide +kernel
theorem dX0_takeBack_24 : decode cX0_takeBack 24 = .ok (.bipush 23, 2) := by decide +kernel
theorem dX0_takeBack_26 : decode cX0_takeBack 26 = .ok (.putfield 17, 3) := by decide +kernel
theorem dX0_takeBack_29 : decode cX0_takeBack 29 = .ok (.aload_n 0, 1) := by decide +kernel
theorem dX0_takeBack_30 : decode cX0_takeBack 30 = .ok (.dup, 1) := by decide +kernel
theorem dX0_takeBack_31 : decode cX0_takeBack 31 = .ok (.getfield 21, 3) := by decide +kernel
theorem dX0_takeBack_34 : decode cX0_takeBack 34 = .ok (.iconst 1, 1) := by decide +kernel
theorem dX0_takeBack_35 : decode cX0_takeBack 35 = .ok (.isub, 1) := by decide +kernel
theorem dX0_takeBack_36 : decode cX0_takeBack 36 = .ok (.putfield 21, 3) := by decide +kernel
theorem dX0_takeBack_39 : decode cX0_takeBack 39 = .ok (.aload_n 1, 1) := by decide +kernel
theorem dX0_takeBack_40 : decode cX0_takeBack 40 = .ok (.aload_n 0, 1) := by decide +kernel
theorem dX0_takeBack_41 : decode cX0_takeBack 41 = .ok (.getfield 11, 3) := by decide +kernel
theorem dX0_takeBack_44 : decode cX0_takeBack 44 = .ok (.aload_n 0, 1) := by decide +kernel
theorem dX0_takeBack_45 : decode cX0_takeBack 45 = .ok (.getfield 17, 3) := by decide +kernel
theorem dX0_takeBack_48 : decode cX0_takeBack 48 = .ok (.aaload, 1) := by decide +kernel
theorem dX0_takeBack_49 : decode cX0_takeBack 49 = .ok (.invokevirtual 25, 3) := by decide +kernel
theorem dX0_takeBack_52 : decode cX0_takeBack 52 = .ok (.return_, 1) := by decide +kernel
theorem dX1_init_0 : decode cX1_init 0 = .ok (.aload_n 0, 1) := by decide +kernel
theorem dX1_init_1 : decode cX1_init 1 = .ok (.invokespecial 3, 3) := by decide +kernel
theorem dX1_init_4 : decode cX1_init 4 = .ok (.aload_n 0, 1) := by decide +kernel
theorem dX1_init_5 : decode cX1_init 5 = .ok (.bipush 16, 2) := by decide +kernel
theorem dX1_init_7 : decode cX1_init 7 = .ok (.newarray .int, 2) := by decide +kernel
theorem dX1_init_9 : decode cX1_init 9 = .ok (.putfield 9, 3) := by decide +kernel
theorem dX1_init_12 : decode cX1_init 12 = .ok (.aload_n 0, 1) := by decide +kernel
theorem dX1_init_13 : decode cX1_init 13 = .ok (.iconst 0, 1) := by decide +kernel
theorem dX1_init_14 : decode cX1_init 14 = .ok (.putfield 15, 3) := by decide +kernel
theorem dX1_init_17 : decode cX1_init 17 = .ok (.return_, 1) := by decide +kernel
set_option maxRecDepth 20000 in
theorem ggX1_begin_X1_answer : GoodIn wsX1_begin wsX1_answer := goodIn_r _ [6, 7, 8, 9, 5, 10, 11, 12, 13, 14, 15, 16, 17, 18, 19, 20, 21, 22, 23, 24, 25, 26, 27, 28, 29, 1, 30, 2, 3, 4, 33, 34, 35, 36, 37, 38, 39, 40, 41, 42, 43, 44, 31, 32] (by decide +kernel) (by decide +kernel)
set_option maxRecDepth 20000 in
theorem gX1_begin_X1_answer : GoodIn wsX1_begin (wsV RX1 19 RX1 yX1_answer wsX1_answer) := goodIn_app (goodIn_of _ (by decide +kernel)) ggX1_begin_X1_answer
theorem dX1_begin_0 : decode cX1_begin 0 = .ok (.aload_n 0, 1) := by decide +kernel
theorem dX1_begin_1 : decode cX1_begin 1 = .ok (.iconst 0, 1) := by decide +kernel
theorem dX1_begin_2 : decode cX1_begin 2 = .ok (.putfield 15, 3) := by decide +kernel
theorem dX1_begin_5 : decode cX1_begin 5 = .ok (.aload_n 0, 1) := by decide +kernel
theorem dX1_begin_6 : decode cX1_begin 6 = .ok (.aload_n 1, 1) := by decide +kernel
theorem dX1_begin_7 : decode cX1_begin 7 = .ok (.iload_n 2, 1) := by decide +kernel
theorem dX1_begin_8 : decode cX1_begin 8 = .ok (.iload_n 3, 1) := by decide +kernel
theorem dX1_begin_9 : decode cX1_begin 9 = .ok (.iconst 0, 1) := by decide +kernel
theorem dX1_begin_10 : decode cX1_begin 10 = .ok (.invokevirtual 19, 3) := by decide +kernel
theorem dX1_begin_13 : decode cX1_begin 13 = .ok (.ireturn, 1) := by decide +kernel
set_option maxRecDepth 20000 in
theorem ggX1_answer_X1_bodyFor : GoodIn wsX1_answer wsX1_bodyFor := goodIn_r _ [5, 6, 7, 4, 8, 9, 10, 11, 12, 13, 14] (by decide +kernel) (by decide +kernel)
set_option maxRecDepth 20000 in
theorem gX1_answer_X1_bodyFor : GoodIn wsX1_answer (va_wsS RX1 28 yX1_bodyFor wsX1_bodyFor) := goodIn_app (goodIn_of _ (by decide +kernel)) ggX1_answer_X1_bodyFor
set_option maxRecDepth 20000 in
theorem ggX1_answer_X1_give : GoodIn wsX1_answer wsX1_give := goodIn_r _ [18, 19, 20, 21, 22, 23, 4, 24, 25, 26, 15, 16, 17, 27, 28, 29, 0, 1, 2, 3, 5, 6, 7, 8, 9, 10, 11, 12, 13, 14, 30, 31, 32, 33, 34, 35, 36, 37, 38, 39, 40, 41, 42, 43] (by decide +kernel) (by decide +kernel)
set_option maxRecDepth 20000 in
theorem gX1_answer_X1_give : GoodIn wsX1_answer (wsV RX1 32 RX1 yX1_give wsX1_give) := goodIn_app (goodIn_of _ (by decide +kernel)) ggX1_answer_X1_give
theorem dX1_answer_0 : decode cX1_answer 0 = .ok (.aload_n 0, 1) := by decide +kernel
theorem dX1_answer_1 : decode cX1_answer 1 = .ok (.aload_n 1, 1) := by decide +kernel
theorem dX1_answer_2 : decode cX1_answer 2 = .ok (.iload_n 2, 1) := by decide +kernel
theorem dX1_answer_3 : decode cX1_answer 3 = .ok (.aload_n 1, 1) := by decide +kernel
theorem dX1_answer_4 : decode cX1_answer 4 = .ok (.getfield 23, 3) := by decide +kernel
theorem dX1_answer_7 : decode cX1_answer 7 = .ok (.iload_n 2, 1) := by decide +kernel
theorem dX1_answer_8 : decode cX1_answer 8 = .ok (.iaload, 1) := by decide +kernel
theorem dX1_answer_9 : decode cX1_answer 9 = .ok (.iload_n 3, 1) := by decide +kernel
theorem dX1_answer_10 : decode cX1_answer 10 = .ok (.invokestatic 28, 3) := by decide +kernel
theorem dX1_answer_13 : decode cX1_answer 13 = .ok (.iload 4, 2) := by decide +kernel
theorem dX1_answer_15 : decode cX1_answer 15 = .ok (.invokevirtual 32, 3) := by decide +kernel
theorem dX1_answer_18 : decode cX1_answer 18 = .ok (.ireturn, 1) := by decide +kernel
set_option maxRecDepth 20000 in
theorem ggX1_bodyFor_X1_sizeBody : GoodIn wsX1_bodyFor wsX1_sizeBody := goodIn_r _ [4] (by decide +kernel) (by decide +kernel)
set_option maxRecDepth 20000 in
theorem gX1_bodyFor_X1_sizeBody : GoodIn wsX1_bodyFor (va_wsS RX1 35 yX1_sizeBody wsX1_sizeBody) := goodIn_app (goodIn_of _ (by decide +kernel)) ggX1_bodyFor_X1_sizeBody
set_option maxRecDepth 20000 in
theorem ggX1_bodyFor_X1_markBody : GoodIn wsX1_bodyFor wsX1_markBody := goodIn_r _ [7] (by decide +kernel) (by decide +kernel)
set_option maxRecDepth 20000 in
theorem gX1_bodyFor_X1_markBody : GoodIn wsX1_bodyFor (va_wsS RX1 39 yX1_markBody wsX1_markBody) := goodIn_app (goodIn_of _ (by decide +kernel)) ggX1_bodyFor_X1_markBody
set_option maxRecDepth 20000 in
theorem ggX1_bodyFor_X7_kindAbove : GoodIn wsX1_bodyFor wsX7_kindAbove := goodIn_r _ [10] (by decide +kernel) (by decide +kernel)
set_option maxRecDepth 20000 in
theorem gX1_bodyFor_X7_kindAbove_n42 : GoodIn wsX1_bodyFor (wsX7_kindAbove) := ggX1_bodyFor_X7_kindAbove
theorem dX1_bodyFor_0 : decode cX1_bodyFor 0 = .ok (.iload_n 0, 1) := by decide +kernel
theorem dX1_bodyFor_1 : decode cX1_bodyFor 1 = .ok (.istore_n 2, 1) := by decide +kernel
theorem dX1_bodyFor_2 : decode cX1_bodyFor 2 = .ok (.iconst 0, 1) := by decide +kernel
theorem dX1_bodyFor_3 : decode cX1_bodyFor 3 = .ok (.istore_n 3, 1) := by decide +kernel
theorem dX1_bodyFor_4 : decode cX1_bodyFor 4 = .ok (.iload_n 3, 1) := by decide +kernel
theorem dX1_bodyFor_5 : decode cX1_bodyFor 5 = .ok (.iconst 5, 1) := by decide +kernel
theorem dX1_bodyFor_6 : decode cX1_bodyFor 6 = .ok (.if_icmp .ge 40, 3) := by decide +kernel
theorem dX1_bodyFor_9 : decode cX1_bodyFor 9 = .ok (.iload_n 1, 1) := by decide +kernel
theorem dX1_bodyFor_10 : decode cX1_bodyFor 10 = .ok (.ifCond .ne 10, 3) := by decide +kernel
theorem dX1_bodyFor_13 : decode cX1_bodyFor 13 = .ok (.iload_n 2, 1) := by decide +kernel
theorem dX1_bodyFor_14 : decode cX1_bodyFor 14 = .ok (.invokestatic 35, 3) := by decide +kernel
theorem dX1_bodyFor_17 : decode cX1_bodyFor 17 = .ok (.goto 7, 3) := by decide +kernel
theorem dX1_bodyFor_20 : decode cX1_bodyFor 20 = .ok (.iload_n 2, 1) := by decide +kernel
theorem dX1_bodyFor_21 : decode cX1_bodyFor 21 = .ok (.invokestatic 39, 3) := by decide +kernel
theorem dX1_bodyFor_24 : decode cX1_bodyFor 24 = .ok (.istore 4, 2) := by decide +kernel
theorem dX1_bodyFor_26 : decode cX1_bodyFor 26 = .ok (.iload 4, 2) := by decide +kernel
theorem dX1_bodyFor_28 : decode cX1_bodyFor 28 = .ok (.iconst (-1), 1) := by decide +kernel
theorem dX1_bodyFor_29 : decode cX1_bodyFor 29 = .ok (.if_icmp .eq 6, 3) := by decide +kernel
theorem dX1_bodyFor_32 : decode cX1_bodyFor 32 = .ok (.iload 4, 2) := by decide +kernel
theorem dX1_bodyFor_34 : decode cX1_bodyFor 34 = .ok (.ireturn, 1) := by decide +kernel
theorem dX1_bodyFor_35 : decode cX1_bodyFor 35 = .ok (.iload_n 2, 1) := by decide +kernel
theorem dX1_bodyFor_36 : decode cX1_bodyFor 36 = .ok (.invokestatic 42, 3) := by decide +kernel
theorem dX1_bodyFor_39 : decode cX1_bodyFor 39 = .ok (.istore_n 2, 1) := by decide +kernel
theorem dX1_bodyFor_40 : decode cX1_bodyFor 40 = .ok (.iinc 3 1, 3) := by decide +kernel
theorem dX1_bodyFor_43 : decode cX1_bodyFor 43 = .ok (.goto (-39), 3) := by decide +kernel
theorem dX1_bodyFor_46 : decode cX1_bodyFor 46 = .ok (.iconst (-1), 1) := by decide +kernel
theorem dX1_bodyFor_47 : decode cX1_bodyFor 47 = .ok (.ireturn, 1) := by decide +kernel
theorem dX1_sizeBody_0 : decode cX1_sizeBody 0 = .ok (.iload_n 0, 1) := by decide +kernel
theorem dX1_sizeBody_1 : decode cX1_sizeBody 1 = .ok (.tableswitch 54 0 5 #[39, 42, 45, 54, 48, 51], 39) := by decide +kernel
theorem dX1_sizeBody_40 : decode cX1_sizeBody 40 = .ok (.bipush 10, 2) := by decide +kernel
theorem dX1_sizeBody_42 : decode cX1_sizeBody 42 = .ok (.ireturn, 1) := by decide +kernel
theorem dX1_sizeBody_43 : decode cX1_sizeBody 43 = .ok (.bipush 11, 2) := by decide +kernel
theorem dX1_sizeBody_45 : decode cX1_sizeBody 45 = .ok (.ireturn, 1) := by decide +kernel
theorem dX1_sizeBody_46 : decode cX1_sizeBody 46 = .ok (.bipush 12, 2) := by decide +kernel
theorem dX1_sizeBody_48 : decode cX1_sizeBody 48 = .ok (.ireturn, 1) := by decide +kernel
theorem dX1_sizeBody_49 : decode cX1_sizeBody 49 = .ok (.bipush 13, 2) := by decide +kernel
theorem dX1_sizeBody_51 : decode cX1_sizeBody 51 = .ok (.ireturn, 1) := by decide +kernel
theorem dX1_sizeBody_52 : decode cX1_sizeBody 52 = .ok (.bipush 14, 2) := by decide +kernel
theorem dX1_sizeBody_54 : decode cX1_sizeBody 54 = .ok (.ireturn, 1) := by decide +kernel
theorem dX1_sizeBody_55 : decode cX1_sizeBody 55 = .ok (.iconst (-1), 1) := by decide +kernel
theorem dX1_sizeBody_56 : decode cX1_sizeBody 56 = .ok (.ireturn, 1) := by decide +kernel
theorem dX1_markBody_0 : decode cX1_markBody 0 = .ok (.iload_n 0, 1) := by decide +kernel
theorem dX1_markBody_1 : decode cX1_markBody 1 = .ok (.tableswitch 50 0 4 #[35, 38, 47, 41, 44], 35) := by decide +kernel
theorem dX1_markBody_36 : decode cX1_markBody 36 = .ok (.bipush 20, 2) := by decide +kernel
theorem dX1_markBody_38 : decode cX1_markBody 38 = .ok (.ireturn, 1) := by decide +kernel
theorem dX1_markBody_39 : decode cX1_markBody 39 = .ok (.bipush 21, 2) := by decide +kernel
theorem dX1_markBody_41 : decode cX1_markBody 41 = .ok (.ireturn, 1) := by decide +kernel
theorem dX1_markBody_42 : decode cX1_markBody 42 = .ok (.bipush 22, 2) := by decide +kernel
theorem dX1_markBody_44 : decode cX1_markBody 44 = .ok (.ireturn, 1) := by decide +kernel
theorem dX1_markBody_45 : decode cX1_markBody 45 = .ok (.bipush 23, 2) := by decide +kernel
theorem dX1_markBody_47 : decode cX1_markBody 47 = .ok (.ireturn, 1) := by decide +kernel
theorem dX1_markBody_48 : decode cX1_markBody 48 = .ok (.bipush 24, 2) := by decide +kernel
theorem dX1_markBody_50 : decode cX1_markBody 50 = .ok (.ireturn, 1) := by decide +kernel
theorem dX1_markBody_51 : decode cX1_markBody 51 = .ok (.iconst (-1), 1) := by decide +kernel
theorem dX1_markBody_52 : decode cX1_markBody 52 = .ok (.ireturn, 1) := by decide +kernel
set_option maxRecDepth 20000 in
theorem ggX1_give_X1_note : GoodIn wsX1_give wsX1_note := goodIn_r _ [7, 8, 9, 42, 43] (by decide +kernel) (by decide +kernel)
set_option maxRecDepth 20000 in
theorem gX1_give_X1_note : GoodIn wsX1_give (wsV RX1 45 RX1 yX1_note wsX1_note) := goodIn_app (goodIn_of _ (by decide +kernel)) ggX1_give_X1_note
set_option maxRecDepth 20000 in
theorem ggX1_give_X1_give : GoodIn wsX1_give wsX1_give := goodIn_r _ [0, 1, 2, 3, 4, 5, 6, 7, 8, 9, 10, 11, 12, 13, 14, 15, 16, 17, 18, 19, 20, 21, 22, 23, 24, 25, 26, 27, 28, 29, 30, 31, 32, 33, 34, 35, 36, 37, 38, 39, 40, 41, 42, 43] (by decide +kernel) (by decide +kernel)
set_option maxRecDepth 20000 in
theorem gX1_give_X1_give : GoodIn wsX1_give (wsV RX1 32 RX1 yX1_give wsX1_give) := goodIn_app (goodIn_of _ (by decide +kernel)) ggX1_give_X1_give
set_option maxRecDepth 20000 in
theorem ggX1_give_X1_answer : GoodIn wsX1_give wsX1_answer := goodIn_r _ [16, 17, 18, 19, 6, 20, 21, 22, 23, 24, 25, 26, 27, 28, 29, 10, 11, 12, 0, 1, 2, 3, 4, 5, 7, 8, 9, 13, 14, 15, 30, 31, 32, 33, 34, 35, 36, 37, 38, 39, 40, 41, 42, 43] (by decide +kernel) (by decide +kernel)
set_option maxRecDepth 20000 in
theorem gX1_give_X1_answer : GoodIn wsX1_give (wsV RX1 19 RX1 yX1_answer wsX1_answer) := goodIn_app (goodIn_of _ (by decide +kernel)) ggX1_give_X1_answer
theorem dX1_give_0 : decode cX1_give 0 = .ok (.iload 4, 2) := by decide +kernel
theorem dX1_give_2 : decode cX1_give 2 = .ok (.bipush 12, 2) := by decide +kernel
theorem dX1_give_4 : decode cX1_give 4 = .ok (.if_icmp .lt 5, 3) := by decide +kernel
theorem dX1_give_7 : decode cX1_give 7 = .ok (.iconst 0, 1) := by decide +kernel
theorem dX1_give_8 : decode cX1_give 8 = .ok (.ireturn, 1) := by decide +kernel
theorem dX1_give_9 : decode cX1_give 9 = .ok (.aload_n 0, 1) := by decide +kernel
theorem dX1_give_10 : decode cX1_give 10 = .ok (.iload_n 3, 1) := by decide +kernel
theorem dX1_give_11 : decode cX1_give 11 = .ok (.invokevirtual 45, 3) := by decide +kernel
theorem dX1_give_14 : decode cX1_give 14 = .ok (.iload 4, 2) := by decide +kernel
theorem dX1_give_16 : decode cX1_give 16 = .ok (.iconst 1, 1) := by decide +kernel
theorem dX1_give_17 : decode cX1_give 17 = .ok (.iadd, 1) := by decide +kernel
theorem dX1_give_18 : decode cX1_give 18 = .ok (.istore 5, 2) := by decide +kernel
theorem dX1_give_20 : decode cX1_give 20 = .ok (.iload_n 3, 1) := by decide +kernel
theorem dX1_give_21 : decode cX1_give 21 = .ok (.tableswitch 211 10 24 #[75, 82, 103, 115, 129, 211, 211, 211, 211, 211, 142, 144, 162, 177, 198], 75) := by decide +kernel
theorem dX1_give_96 : decode cX1_give 96 = .ok (.aload_n 1, 1) := by decide +kernel
theorem dX1_give_97 : decode cX1_give 97 = .ok (.getfield 49, 3) := by decide +kernel
theorem dX1_give_100 : decode cX1_give 100 = .ok (.iload_n 2, 1) := by decide +kernel
theorem dX1_give_101 : decode cX1_give 101 = .ok (.iaload, 1) := by decide +kernel
theorem dX1_give_102 : decode cX1_give 102 = .ok (.ireturn, 1) := by decide +kernel
theorem dX1_give_103 : decode cX1_give 103 = .ok (.aload_n 0, 1) := by decide +kernel
theorem dX1_give_104 : decode cX1_give 104 = .ok (.aload_n 1, 1) := by decide +kernel
theorem dX1_give_105 : decode cX1_give 105 = .ok (.iload_n 2, 1) := by decide +kernel
theorem dX1_give_106 : decode cX1_give 106 = .ok (.bipush 10, 2) := by decide +kernel
theorem dX1_give_108 : decode cX1_give 108 = .ok (.iload 5, 2) := by decide +kernel
theorem dX1_give_110 : decode cX1_give 110 = .ok (.invokevirtual 32, 3) := by decide +kernel
theorem dX1_give_113 : decode cX1_give 113 = .ok (.aload_n 0, 1) := by decide +kernel
theorem dX1_give_114 : decode cX1_give 114 = .ok (.aload_n 1, 1) := by decide +kernel
theorem dX1_give_115 : decode cX1_give 115 = .ok (.iload_n 2, 1) := by decide +kernel
theorem dX1_give_116 : decode cX1_give 116 = .ok (.iconst 1, 1) := by decide +kernel
theorem dX1_give_117 : decode cX1_give 117 = .ok (.iload 5, 2) := by decide +kernel
theorem dX1_give_119 : decode cX1_give 119 = .ok (.invokevirtual 19, 3) := by decide +kernel
theorem dX1_give_122 : decode cX1_give 122 = .ok (.iadd, 1) := by decide +kernel
theorem dX1_give_123 : decode cX1_give 123 = .ok (.ireturn, 1) := by decide +kernel
theorem dX1_give_124 : decode cX1_give 124 = .ok (.aload_n 0, 1) := by decide +kernel
theorem dX1_give_125 : decode cX1_give 125 = .ok (.aload_n 1, 1) := by decide +kernel
theorem dX1_give_126 : decode cX1_give 126 = .ok (.iload_n 2, 1) := by decide +kernel
theorem dX1_give_127 : decode cX1_give 127 = .ok (.bipush 11, 2) := by decide +kernel
theorem dX1_give_129 : decode cX1_give 129 = .ok (.iload 5, 2) := by decide +kernel
theorem dX1_give_131 : decode cX1_give 131 = .ok (.invokevirtual 32, 3) := by decide +kernel
theorem dX1_give_134 : decode cX1_give 134 = .ok (.ineg, 1) := by decide +kernel
theorem dX1_give_135 : decode cX1_give 135 = .ok (.ireturn, 1) := by decide +kernel
theorem dX1_give_136 : decode cX1_give 136 = .ok (.aload_n 0, 1) := by decide +kernel
theorem dX1_give_137 : decode cX1_give 137 = .ok (.aload_n 1, 1) := by decide +kernel
theorem dX1_give_138 : decode cX1_give 138 = .ok (.iload_n 2, 1) := by decide +kernel
theorem dX1_give_139 : decode cX1_give 139 = .ok (.bipush 10, 2) := by decide +kernel
theorem dX1_give_141 : decode cX1_give 141 = .ok (.iload 5, 2) := by decide +kernel
theorem dX1_give_143 : decode cX1_give 143 = .ok (.invokevirtual 32, 3) := by decide +kernel
theorem dX1_give_146 : decode cX1_give 146 = .ok (.bipush 100, 2) := by decide +kernel
theorem dX1_give_148 : decode cX1_give 148 = .ok (.isub, 1) := by decide +kernel
theorem dX1_give_149 : decode cX1_give 149 = .ok (.ireturn, 1) := by decide +kernel
theorem dX1_give_150 : decode cX1_give 150 = .ok (.iconst 2, 1) := by decide +kernel
theorem dX1_give_151 : decode cX1_give 151 = .ok (.aload_n 0, 1) := by decide +kernel
theorem dX1_give_152 : decode cX1_give 152 = .ok (.aload_n 1, 1) := by decide +kernel
theorem dX1_give_153 : decode cX1_give 153 = .ok (.iload_n 2, 1) := by decide +kernel
theorem dX1_give_154 : decode cX1_give 154 = .ok (.bipush 13, 2) := by decide +kernel
theorem dX1_give_156 : decode cX1_give 156 = .ok (.iload 5, 2) := by decide +kernel
theorem dX1_give_158 : decode cX1_give 158 = .ok (.invokevirtual 32, 3) := by decide +kernel
theorem dX1_give_161 : decode cX1_give 161 = .ok (.imul, 1) := by decide +kernel
theorem dX1_give_162 : decode cX1_give 162 = .ok (.ireturn, 1) := by decide +kernel
theorem dX1_give_163 : decode cX1_give 163 = .ok (.iload_n 2, 1) := by decide +kernel
theorem dX1_give_164 : decode cX1_give 164 = .ok (.ireturn, 1) := by decide +kernel
theorem dX1_give_165 : decode cX1_give 165 = .ok (.aload_n 0, 1) := by decide +kernel
theorem dX1_give_166 : decode cX1_give 166 = .ok (.aload_n 1, 1) := by decide +kernel
theorem dX1_give_167 : decode cX1_give 167 = .ok (.iload_n 2, 1) := by decide +kernel
theorem dX1_give_168 : decode cX1_give 168 = .ok (.bipush 20, 2) := by decide +kernel
theorem dX1_give_170 : decode cX1_give 170 = .ok (.iload 5, 2) := by decide +kernel
theorem dX1_give_172 : decode cX1_give 172 = .ok (.invokevirtual 32, 3) := by decide +kernel
theorem dX1_give_175 : decode cX1_give 175 = .ok (.aload_n 1, 1) := by decide +kernel
theorem dX1_give_176 : decode cX1_give 176 = .ok (.getfield 52, 3) := by decide +kernel
theorem dX1_give_179 : decode cX1_give 179 = .ok (.iload_n 2, 1) := by decide +kernel
theorem dX1_give_180 : decode cX1_give 180 = .ok (.iaload, 1) := by decide +kernel
theorem dX1_give_181 : decode cX1_give 181 = .ok (.iadd, 1) := by decide +kernel
theorem dX1_give_182 : decode cX1_give 182 = .ok (.ireturn, 1) := by decide +kernel
theorem dX1_give_183 : decode cX1_give 183 = .ok (.aload_n 0, 1) := by decide +kernel
theorem dX1_give_184 : decode cX1_give 184 = .ok (.aload_n 1, 1) := by decide +kernel
theorem dX1_give_185 : decode cX1_give 185 = .ok (.iload_n 2, 1) := by decide +kernel
theorem dX1_give_186 : decode cX1_give 186 = .ok (.bipush 21, 2) := by decide +kernel
theorem dX1_give_188 : decode cX1_give 188 = .ok (.iload 5, 2) := by decide +kernel
theorem dX1_give_190 : decode cX1_give 190 = .ok (.invokevirtual 32, 3) := by decide +kernel
theorem dX1_give_193 : decode cX1_give 193 = .ok (.sipush 1000, 3) := by decide +kernel
theorem dX1_give_196 : decode cX1_give 196 = .ok (.isub, 1) := by decide +kernel
theorem dX1_give_197 : decode cX1_give 197 = .ok (.ireturn, 1) := by decide +kernel
theorem dX1_give_198 : decode cX1_give 198 = .ok (.aload_n 0, 1) := by decide +kernel
theorem dX1_give_199 : decode cX1_give 199 = .ok (.aload_n 1, 1) := by decide +kernel
theorem dX1_give_200 : decode cX1_give 200 = .ok (.iload_n 2, 1) := by decide +kernel
theorem dX1_give_201 : decode cX1_give 201 = .ok (.bipush 20, 2) := by decide +kernel
theorem dX1_give_203 : decode cX1_give 203 = .ok (.iload 5, 2) := by decide +kernel
theorem dX1_give_205 : decode cX1_give 205 = .ok (.invokevirtual 32, 3) := by decide +kernel
theorem dX1_give_208 : decode cX1_give 208 = .ok (.aload_n 0, 1) := by decide +kernel
theorem dX1_give_209 : decode cX1_give 209 = .ok (.aload_n 1, 1) := by decide +kernel
theorem dX1_give_210 : decode cX1_give 210 = .ok (.iload_n 2, 1) := by decide +kernel
theorem dX1_give_211 : decode cX1_give 211 = .ok (.iconst 0, 1) := by decide +kernel
theorem dX1_give_212 : decode cX1_give 212 = .ok (.iload 5, 2) := by decide +kernel
theorem dX1_give_214 : decode cX1_give 214 = .ok (.invokevirtual 19, 3) := by decide +kernel
theorem dX1_give_217 : decode cX1_give 217 = .ok (.isub, 1) := by decide +kernel
theorem dX1_give_218 : decode cX1_give 218 = .ok (.ireturn, 1) := by decide +kernel
theorem dX1_give_219 : decode cX1_give 219 = .ok (.iconst 2, 1) := by decide +kernel
theorem dX1_give_220 : decode cX1_give 220 = .ok (.aload_n 0, 1) := by decide +kernel
theorem dX1_give_221 : decode cX1_give 221 = .ok (.aload_n 1, 1) := by decide +kernel
theorem dX1_give_222 : decode cX1_give 222 = .ok (.iload_n 2, 1) := by decide +kernel
theorem dX1_give_223 : decode cX1_give 223 = .ok (.bipush 21, 2) := by decide +kernel
theorem dX1_give_225 : decode cX1_give 225 = .ok (.iload 5, 2) := by decide +kernel
theorem dX1_give_227 : decode cX1_give 227 = .ok (.invokevirtual 32, 3) := by decide +kernel
theorem dX1_give_230 : decode cX1_give 230 = .ok (.imul, 1) := by decide +kernel
theorem dX1_give_231 : decode cX1_give 231 = .ok (.ireturn, 1) := by decide +kernel
theorem dX1_give_232 : decode cX1_give 232 = .ok (.iconst 0, 1) := by decide +kernel
theorem dX1_give_233 : decode cX1_give 233 = .ok (.ireturn, 1) := by decide +kernel
theorem dX1_note_0 : decode cX1_note 0 = .ok (.aload_n 0, 1) := by decide +kernel
theorem dX1_note_1 : decode cX1_note 1 = .ok (.getfield 15, 3) := by decide +kernel
theorem dX1_note_4 : decode cX1_note 4 = .ok (.bipush 16, 2) := by decide +kernel
theorem dX1_note_6 : decode cX1_note 6 = .ok (.if_icmp .ge 23, 3) := by decide +kernel
theorem dX1_note_9 : decode cX1_note 9 = .ok (.aload_n 0, 1) := by decide +kernel
theorem dX1_note_10 : decode cX1_note 10 = .ok (.getfield 9, 3) := by decide +kernel
theorem dX1_note_13 : decode cX1_note 13 = .ok (.aload_n 0, 1) := by decide +kernel
theorem dX1_note_14 : decode cX1_note 14 = .ok (.getfield 15, 3) := by decide +kernel
theorem dX1_note_17 : decode cX1_note 17 = .ok (.iload_n 1, 1) := by decide +kernel
theorem dX1_note_18 : decode cX1_note 18 = .ok (.iastore, 1) := by decide +kernel
theorem dX1_note_19 : decode cX1_note 19 = .ok (.aload_n 0, 1) := by decide +kernel
theorem dX1_note_20 : decode cX1_note 20 = .ok (.dup, 1) := by decide +kernel
theorem dX1_note_21 : decode cX1_note 21 = .ok (.getfield 15, 3) := by decide +kernel
theorem dX1_note_24 : decode cX1_note 24 = .ok (.iconst 1, 1) := by decide +kernel
theorem dX1_note_25 : decode cX1_note 25 = .ok (.iadd, 1) := by decide +kernel
theorem dX1_note_26 : decode cX1_note 26 = .ok (.putfield 15, 3) := by decide +kernel
theorem dX1_note_29 : decode cX1_note 29 = .ok (.return_, 1) := by decide +kernel
set_option maxRecDepth 20000 in
theorem ggX2_init_X3_init : GoodIn wsX2_init wsX3_init := goodIn_r _ [15, 16, 2, 3, 17, 18, 19, 20, 21, 22, 10, 23, 24, 25, 26, 27, 28, 29, 30, 31, 32, 33, 34, 35, 36, 37, 38, 39, 40] (by decide +kernel) (by decide +kernel)
set_option maxRecDepth 20000 in
theorem gX2_init_X3_init_n11 : GoodIn wsX2_init (wsX3_init) := ggX2_init_X3_init
theorem dX2_init_0 : decode cX2_init 0 = .ok (.aload_n 0, 1) := by decide +kernel
theorem dX2_init_1 : decode cX2_init 1 = .ok (.invokespecial 3, 3) := by decide +kernel
theorem dX2_init_4 : decode cX2_init 4 = .ok (.aload_n 0, 1) := by decide +kernel
theorem dX2_init_5 : decode cX2_init 5 = .ok (.new 9, 3) := by decide +kernel
theorem dX2_init_8 : decode cX2_init 8 = .ok (.dup, 1) := by decide +kernel
theorem dX2_init_9 : decode cX2_init 9 = .ok (.invokespecial 11, 3) := by decide +kernel
theorem dX2_init_12 : decode cX2_init 12 = .ok (.putfield 12, 3) := by decide +kernel
theorem dX2_init_15 : decode cX2_init 15 = .ok (.aload_n 0, 1) := by decide +kernel
theorem dX2_init_16 : decode cX2_init 16 = .ok (.new 9, 3) := by decide +kernel
theorem dX2_init_19 : decode cX2_init 19 = .ok (.dup, 1) := by decide +kernel
theorem dX2_init_20 : decode cX2_init 20 = .ok (.invokespecial 11, 3) := by decide +kernel
theorem dX2_init_23 : decode cX2_init 23 = .ok (.putfield 18, 3) := by decide +kernel
theorem dX2_init_26 : decode cX2_init 26 = .ok (.aload_n 0, 1) := by decide +kernel
theorem dX2_init_27 : decode cX2_init 27 = .ok (.iconst (-1), 1) := by decide +kernel
theorem dX2_init_28 : decode cX2_init 28 = .ok (.putfield 21, 3) := by decide +kernel
theorem dX2_init_31 : decode cX2_init 31 = .ok (.aload_n 0, 1) := by decide +kernel
theorem dX2_init_32 : decode cX2_init 32 = .ok (.iconst 5, 1) := by decide +kernel
theorem dX2_init_33 : decode cX2_init 33 = .ok (.newarray .int, 2) := by decide +kernel
theorem dX2_init_35 : decode cX2_init 35 = .ok (.putfield 25, 3) := by decide +kernel
theorem dX2_init_38 : decode cX2_init 38 = .ok (.aload_n 0, 1) := by decide +kernel
theorem dX2_init_39 : decode cX2_init 39 = .ok (.ldc 29, 2) := by decide +kernel
theorem dX2_init_41 : decode cX2_init 41 = .ok (.putfield 30, 3) := by decide +kernel
theorem dX2_init_44 : decode cX2_init 44 = .ok (.return_, 1) := by decide +kernel
set_option maxRecDepth 20000 in
theorem ggX2_find_X3_foretellsLike : GoodIn wsX2_find wsX3_foretellsLike := goodIn_r _ [10, 11, 12, 13, 14, 15, 16, 17, 94, 95, 96, 97, 98, 99, 100, 101, 102, 103, 104, 105] (by decide +kernel) (by decide +kernel)
set_option maxRecDepth 20000 in
theorem gX2_find_X3_foretellsLike : GoodIn wsX2_find (wsV RX2 33 RX3 yX3_foretellsLike wsX3_foretellsLike) := goodIn_app (goodIn_of _ (by decide +kernel)) ggX2_find_X3_foretellsLike
set_option maxRecDepth 20000 in
theorem ggX2_find_X3_become : GoodIn wsX2_find wsX3_become := goodIn_r _ [21, 22, 11, 23, 12, 13, 24, 14, 15, 16, 17, 25, 94, 95, 96, 97, 98, 99, 100, 101, 102, 103, 104, 105] (by decide +kernel) (by decide +kernel)
set_option maxRecDepth 20000 in
theorem gX2_find_X3_become : GoodIn wsX2_find (wsV RX2 37 RX3 yX3_become wsX3_become) := goodIn_app (goodIn_of _ (by decide +kernel)) ggX2_find_X3_become
set_option maxRecDepth 20000 in
theorem ggX2_find_X2_oneComesUpAnywhere : GoodIn wsX2_find wsX2_oneComesUpAnywhere := goodIn_r _ [30, 31, 2, 5, 32, 18, 19, 20, 9, 21, 22, 11, 23, 12, 13, 24, 14, 15, 16, 17, 25, 33, 34, 35, 36, 37, 38, 39, 40, 41, 42, 43, 44, 45, 46, 47, 48, 49, 50, 51, 52, 53, 54, 55, 56, 57, 58, 89, 90, 91, 92, 93, 94, 95, 96, 97, 98, 99, 100, 101, 102, 103, 104, 105] (by decide +kernel) (by decide +kernel)
set_option maxRecDepth 20000 in
theorem gX2_find_X2_oneComesUpAnywhere : GoodIn wsX2_find (wsV RX2 41 RX2 yX2_oneComesUpAnywhere wsX2_oneComesUpAnywhere) := goodIn_app (goodIn_of _ (by decide +kernel)) ggX2_find_X2_oneComesUpAnywhere
set_option maxRecDepth 20000 in
theorem ggX2_find_X2_findMoving : GoodIn wsX2_find wsX2_findMoving := goodIn_r _ [62, 2, 5, 63, 64, 65, 29, 66, 67, 68, 3, 58, 47, 48, 9, 49, 15, 69, 70, 71, 72, 31, 73, 74, 75, 76, 11, 46, 18, 19, 20, 21, 22, 23, 12, 13, 24, 14, 16, 17, 25, 77, 78, 79, 80, 81, 82, 83, 84, 85, 86, 87, 44, 88, 33, 34, 35, 36, 37, 38, 39, 40, 41, 42, 43, 45, 50, 51, 52, 53, 54, 55, 56, 57, 89, 90, 91, 92, 93, 94, 95, 96, 97, 98, 99, 100, 101, 102, 103, 104, 105] (by decide +kernel) (by decide +kernel)
set_option maxRecDepth 20000 in
theorem gX2_find_X2_findMoving : GoodIn wsX2_find (wsV RX2 48 RX2 yX2_findMoving wsX2_findMoving) := goodIn_app (goodIn_of _ (by decide +kernel)) ggX2_find_X2_findMoving
theorem dX2_find_0 : decode cX2_find 0 = .ok (.iload_n 2, 1) := by decide +kernel
theorem dX2_find_1 : decode cX2_find 1 = .ok (.aload_n 0, 1) := by decide +kernel
theorem dX2_find_2 : decode cX2_find 2 = .ok (.getfield 21, 3) := by decide +kernel
theorem dX2_find_5 : decode cX2_find 5 = .ok (.if_icmp .ne 15, 3) := by decide +kernel
theorem dX2_find_8 : decode cX2_find 8 = .ok (.aload_n 0, 1) := by decide +kernel
theorem dX2_find_9 : decode cX2_find 9 = .ok (.getfield 18, 3) := by decide +kernel
theorem dX2_find_12 : decode cX2_find 12 = .ok (.aload_n 1, 1) := by decide +kernel
theorem dX2_find_13 : decode cX2_find 13 = .ok (.invokevirtual 33, 3) := by decide +kernel
theorem dX2_find_16 : decode cX2_find 16 = .ok (.ifCond .eq 4, 3) := by decide +kernel
theorem dX2_find_19 : decode cX2_find 19 = .ok (.return_, 1) := by decide +kernel
theorem dX2_find_20 : decode cX2_find 20 = .ok (.aload_n 0, 1) := by decide +kernel
theorem dX2_find_21 : decode cX2_find 21 = .ok (.getfield 18, 3) := by decide +kernel
theorem dX2_find_24 : decode cX2_find 24 = .ok (.aload_n 1, 1) := by decide +kernel
theorem dX2_find_25 : decode cX2_find 25 = .ok (.invokevirtual 37, 3) := by decide +kernel
theorem dX2_find_28 : decode cX2_find 28 = .ok (.aload_n 0, 1) := by decide +kernel
theorem dX2_find_29 : decode cX2_find 29 = .ok (.iload_n 2, 1) := by decide +kernel
theorem dX2_find_30 : decode cX2_find 30 = .ok (.putfield 21, 3) := by decide +kernel
theorem dX2_find_33 : decode cX2_find 33 = .ok (.aload_n 0, 1) := by decide +kernel
theorem dX2_find_34 : decode cX2_find 34 = .ok (.ldc 29, 2) := by decide +kernel
theorem dX2_find_36 : decode cX2_find 36 = .ok (.putfield 30, 3) := by decide +kernel
theorem dX2_find_39 : decode cX2_find 39 = .ok (.aload_n 0, 1) := by decide +kernel
theorem dX2_find_40 : decode cX2_find 40 = .ok (.iload_n 2, 1) := by decide +kernel
theorem dX2_find_41 : decode cX2_find 41 = .ok (.invokevirtual 41, 3) := by decide +kernel
theorem dX2_find_44 : decode cX2_find 44 = .ok (.ifCond .eq 4, 3) := by decide +kernel
theorem dX2_find_47 : decode cX2_find 47 = .ok (.return_, 1) := by decide +kernel
theorem dX2_find_48 : decode cX2_find 48 = .ok (.iconst 0, 1) := by decide +kernel
theorem dX2_find_49 : decode cX2_find 49 = .ok (.istore_n 3, 1) := by decide +kernel
theorem dX2_find_50 : decode cX2_find 50 = .ok (.iload_n 3, 1) := by decide +kernel
theorem dX2_find_51 : decode cX2_find 51 = .ok (.aload_n 1, 1) := by decide +kernel
theorem dX2_find_52 : decode cX2_find 52 = .ok (.getfield 45, 3) := by decide +kernel
theorem dX2_find_55 : decode cX2_find 55 = .ok (.if_icmp .gt 32, 3) := by decide +kernel
theorem dX2_find_58 : decode cX2_find 58 = .ok (.aload_n 0, 1) := by decide +kernel
theorem dX2_find_59 : decode cX2_find 59 = .ok (.getfield 30, 3) := by decide +kernel
theorem dX2_find_62 : decode cX2_find 62 = .ok (.ldc 29, 2) := by decide +kernel
theorem dX2_find_64 : decode cX2_find 64 = .ok (.if_icmp .ne 23, 3) := by decide +kernel
theorem dX2_find_67 : decode cX2_find 67 = .ok (.aload_n 0, 1) := by decide +kernel
theorem dX2_find_68 : decode cX2_find 68 = .ok (.iload_n 3, 1) := by decide +kernel
theorem dX2_find_69 : decode cX2_find 69 = .ok (.iload_n 2, 1) := by decide +kernel
theorem dX2_find_70 : decode cX2_find 70 = .ok (.invokevirtual 48, 3) := by decide +kernel
theorem dX2_find_73 : decode cX2_find 73 = .ok (.ifCond .eq 8, 3) := by decide +kernel
theorem dX2_find_76 : decode cX2_find 76 = .ok (.aload_n 0, 1) := by decide +kernel
theorem dX2_find_77 : decode cX2_find 77 = .ok (.iload_n 3, 1) := by decide +kernel
theorem dX2_find_78 : decode cX2_find 78 = .ok (.putfield 30, 3) := by decide +kernel
theorem dX2_find_81 : decode cX2_find 81 = .ok (.iinc 3 1, 3) := by decide +kernel
theorem dX2_find_84 : decode cX2_find 84 = .ok (.goto (-34), 3) := by decide +kernel
theorem dX2_find_87 : decode cX2_find 87 = .ok (.return_, 1) := by decide +kernel
set_option maxRecDepth 20000 in
theorem ggX2_oneComesUpAnywhere_X3_become : GoodIn wsX2_oneComesUpAnywhere wsX3_become := goodIn_r _ [9, 10, 11, 12, 13, 14, 15, 16, 17, 18, 19, 20, 52, 53, 54, 55, 56, 57, 58, 59, 60, 61, 62, 63] (by decide +kernel) (by decide +kernel)
set_option maxRecDepth 20000 in
theorem gX2_oneComesUpAnywhere_X3_become : GoodIn wsX2_oneComesUpAnywhere (wsV RX2 37 RX3 yX3_become wsX3_become) := goodIn_app (goodIn_of _ (by decide +kernel)) ggX2_oneComesUpAnywhere_X3_become
set_option maxRecDepth 20000 in
theorem ggX2_oneComesUpAnywhere_X3_passYear : GoodIn wsX2_oneComesUpAnywhere wsX3_passYear := goodIn_r _ [24, 11, 25, 17, 14, 26, 27, 28, 8, 29, 16, 30, 31, 32, 33, 34, 35, 36, 37, 38, 39, 40, 41, 19, 42, 43, 44, 45, 18, 52, 53, 54, 55, 56, 57, 58, 59, 60, 61, 62, 63] (by decide +kernel) (by decide +kernel)
set_option maxRecDepth 20000 in
theorem gX2_oneComesUpAnywhere_X3_passYear : GoodIn wsX2_oneComesUpAnywhere (wsV RX2 52 RX3 yX3_passYear wsX3_passYear) := goodIn_app (goodIn_of _ (by decide +kernel)) ggX2_oneComesUpAnywhere_X3_passYear
set_option maxRecDepth 20000 in
theorem ggX2_oneComesUpAnywhere_X3_isUp : GoodIn wsX2_oneComesUpAnywhere wsX3_isUp := goodIn_r _ [37, 17, 52, 53, 54, 55, 56, 57, 58, 59, 60, 61, 62, 63] (by decide +kernel) (by decide +kernel)
set_option maxRecDepth 20000 in
theorem gX2_oneComesUpAnywhere_X3_isUp : GoodIn wsX2_oneComesUpAnywhere (wsV RX2 59 RX3 yX3_isUp wsX3_isUp) := goodIn_app (goodIn_of _ (by decide +kernel)) ggX2_oneComesUpAnywhere_X3_isUp
theorem dX2_oneComesUpAnywhere_0 : decode cX2_oneComesUpAnywhere 0 = .ok (.aload_n 0, 1) := by decide +kernel
theorem dX2_oneComesUpAnywhere_1 : decode cX2_oneComesUpAnywhere 1 = .ok (.getfield 12, 3) := by decide +kernel
theorem dX2_oneComesUpAnywhere_4 : decode cX2_oneComesUpAnywhere 4 = .ok (.aload_n 0, 1) := by decide +kernel
theorem dX2_oneComesUpAnywhere_5 : decode cX2_oneComesUpAnywhere 5 = .ok (.getfield 18, 3) := by decide +kernel
theorem dX2_oneComesUpAnywhere_8 : decode cX2_oneComesUpAnywhere 8 = .ok (.invokevirtual 37, 3) := by decide +kernel
theorem dX2_oneComesUpAnywhere_11 : decode cX2_oneComesUpAnywhere 11 = .ok (.iconst 0, 1) := by decide +kernel
theorem dX2_oneComesUpAnywhere_12 : decode cX2_oneComesUpAnywhere 12 = .ok (.istore_n 2, 1) := by decide +kernel
theorem dX2_oneComesUpAnywhere_13 : decode cX2_oneComesUpAnywhere 13 = .ok (.iload_n 2, 1) := by decide +kernel
theorem dX2_oneComesUpAnywhere_14 : decode cX2_oneComesUpAnywhere 14 = .ok (.iload_n 1, 1) := by decide +kernel
theorem dX2_oneComesUpAnywhere_15 : decode cX2_oneComesUpAnywhere 15 = .ok (.if_icmp .ge 17, 3) := by decide +kernel
theorem dX2_oneComesUpAnywhere_18 : decode cX2_oneComesUpAnywhere 18 = .ok (.aload_n 0, 1) := by decide +kernel
theorem dX2_oneComesUpAnywhere_19 : decode cX2_oneComesUpAnywhere 19 = .ok (.getfield 12, 3) := by decide +kernel
theorem dX2_oneComesUpAnywhere_22 : decode cX2_oneComesUpAnywhere 22 = .ok (.invokevirtual 52, 3) := by decide +kernel
theorem dX2_oneComesUpAnywhere_25 : decode cX2_oneComesUpAnywhere 25 = .ok (.pop, 1) := by decide +kernel
theorem dX2_oneComesUpAnywhere_26 : decode cX2_oneComesUpAnywhere 26 = .ok (.iinc 2 1, 3) := by decide +kernel
theorem dX2_oneComesUpAnywhere_29 : decode cX2_oneComesUpAnywhere 29 = .ok (.goto (-16), 3) := by decide +kernel
theorem dX2_oneComesUpAnywhere_32 : decode cX2_oneComesUpAnywhere 32 = .ok (.iconst 0, 1) := by decide +kernel
theorem dX2_oneComesUpAnywhere_33 : decode cX2_oneComesUpAnywhere 33 = .ok (.istore_n 2, 1) := by decide +kernel
theorem dX2_oneComesUpAnywhere_34 : decode cX2_oneComesUpAnywhere 34 = .ok (.iload_n 2, 1) := by decide +kernel
theorem dX2_oneComesUpAnywhere_35 : decode cX2_oneComesUpAnywhere 35 = .ok (.aload_n 0, 1) := by decide +kernel
theorem dX2_oneComesUpAnywhere_36 : decode cX2_oneComesUpAnywhere 36 = .ok (.getfield 18, 3) := by decide +kernel
theorem dX2_oneComesUpAnywhere_39 : decode cX2_oneComesUpAnywhere 39 = .ok (.getfield 45, 3) := by decide +kernel
theorem dX2_oneComesUpAnywhere_42 : decode cX2_oneComesUpAnywhere 42 = .ok (.if_icmp .ge 46, 3) := by decide +kernel
theorem dX2_oneComesUpAnywhere_45 : decode cX2_oneComesUpAnywhere 45 = .ok (.aload_n 0, 1) := by decide +kernel
theorem dX2_oneComesUpAnywhere_46 : decode cX2_oneComesUpAnywhere 46 = .ok (.getfield 18, 3) := by decide +kernel
theorem dX2_oneComesUpAnywhere_49 : decode cX2_oneComesUpAnywhere 49 = .ok (.getfield 56, 3) := by decide +kernel
theorem dX2_oneComesUpAnywhere_52 : decode cX2_oneComesUpAnywhere 52 = .ok (.iload_n 2, 1) := by decide +kernel
theorem dX2_oneComesUpAnywhere_53 : decode cX2_oneComesUpAnywhere 53 = .ok (.iaload, 1) := by decide +kernel
theorem dX2_oneComesUpAnywhere_54 : decode cX2_oneComesUpAnywhere 54 = .ok (.iconst 2, 1) := by decide +kernel
theorem dX2_oneComesUpAnywhere_55 : decode cX2_oneComesUpAnywhere 55 = .ok (.if_icmp .eq 27, 3) := by decide +kernel
theorem dX2_oneComesUpAnywhere_58 : decode cX2_oneComesUpAnywhere 58 = .ok (.aload_n 0, 1) := by decide +kernel
theorem dX2_oneComesUpAnywhere_59 : decode cX2_oneComesUpAnywhere 59 = .ok (.getfield 18, 3) := by decide +kernel
theorem dX2_oneComesUpAnywhere_62 : decode cX2_oneComesUpAnywhere 62 = .ok (.iload_n 2, 1) := by decide +kernel
theorem dX2_oneComesUpAnywhere_63 : decode cX2_oneComesUpAnywhere 63 = .ok (.invokevirtual 59, 3) := by decide +kernel
theorem dX2_oneComesUpAnywhere_66 : decode cX2_oneComesUpAnywhere 66 = .ok (.ifCond .ne 16, 3) := by decide +kernel
theorem dX2_oneComesUpAnywhere_69 : decode cX2_oneComesUpAnywhere 69 = .ok (.aload_n 0, 1) := by decide +kernel
theorem dX2_oneComesUpAnywhere_70 : decode cX2_oneComesUpAnywhere 70 = .ok (.getfield 12, 3) := by decide +kernel
theorem dX2_oneComesUpAnywhere_73 : decode cX2_oneComesUpAnywhere 73 = .ok (.iload_n 2, 1) := by decide +kernel
theorem dX2_oneComesUpAnywhere_74 : decode cX2_oneComesUpAnywhere 74 = .ok (.invokevirtual 59, 3) := by decide +kernel
theorem dX2_oneComesUpAnywhere_77 : decode cX2_oneComesUpAnywhere 77 = .ok (.ifCond .eq 5, 3) := by decide +kernel
theorem dX2_oneComesUpAnywhere_80 : decode cX2_oneComesUpAnywhere 80 = .ok (.iconst 1, 1) := by decide +kernel
theorem dX2_oneComesUpAnywhere_81 : decode cX2_oneComesUpAnywhere 81 = .ok (.ireturn, 1) := by decide +kernel
theorem dX2_oneComesUpAnywhere_82 : decode cX2_oneComesUpAnywhere 82 = .ok (.iinc 2 1, 3) := by decide +kernel
theorem dX2_oneComesUpAnywhere_85 : decode cX2_oneComesUpAnywhere 85 = .ok (.goto (-51), 3) := by decide +kernel
theorem dX2_oneComesUpAnywhere_88 : decode cX2_oneComesUpAnywhere 88 = .ok (.iconst 0, 1) := by decide +kernel
theorem dX2_oneComesUpAnywhere_89 : decode cX2_oneComesUpAnywhere 89 = .ok (.ireturn, 1) := by decide +kernel
set_option maxRecDepth 20000 in
theorem ggX2_findMoving_X2_countMoved : GoodIn wsX2_findMoving wsX2_countMoved := goodIn_r _ [7, 1, 2, 8, 9, 10, 11, 12, 13, 14, 15, 16, 74, 75, 76, 77, 78, 79, 80, 81, 82, 83, 84, 85, 86, 87, 88, 89, 90] (by decide +kernel) (by decide +kernel)
set_option maxRecDepth 20000 in
theorem gX2_findMoving_X2_countMoved : GoodIn wsX2_findMoving (wsV RX2 62 RX2 yX2_countMoved wsX2_countMoved) := goodIn_app (goodIn_of _ (by decide +kernel)) ggX2_findMoving_X2_countMoved
set_option maxRecDepth 20000 in
theorem ggX2_findMoving_X2_holds : GoodIn wsX2_findMoving wsX2_holds := goodIn_r _ [20, 1, 21, 2, 9, 8, 10, 22, 23, 24, 14, 25, 26, 27, 12, 13, 15, 16, 28, 29, 30, 31, 32, 33, 34, 35, 36, 37, 38, 39, 40, 41, 42, 43, 44, 45, 46, 47, 48, 49, 50, 51, 52, 53, 54, 55, 56, 57, 58, 59, 60, 61, 62, 63, 64, 65, 66, 67, 68, 69, 70, 71, 72, 73, 74, 75, 76, 77, 78, 79, 80, 81, 82, 83, 84, 85, 86, 87, 88, 89, 90] (by decide +kernel) (by decide +kernel)
set_option maxRecDepth 20000 in
theorem gX2_findMoving_X2_holds : GoodIn wsX2_findMoving (wsV RX2 66 RX2 yX2_holds wsX2_holds) := goodIn_app (goodIn_of _ (by decide +kernel)) ggX2_findMoving_X2_holds
theorem dX2_findMoving_0 : decode cX2_findMoving 0 = .ok (.iconst 1, 1) := by decide +kernel
theorem dX2_findMoving_1 : decode cX2_findMoving 1 = .ok (.iconst 2, 1) := by decide +kernel
theorem dX2_findMoving_2 : decode cX2_findMoving 2 = .ok (.aload_n 0, 1) := by decide +kernel
theorem dX2_findMoving_3 : decode cX2_findMoving 3 = .ok (.getfield 18, 3) := by decide +kernel
theorem dX2_findMoving_6 : decode cX2_findMoving 6 = .ok (.getfield 45, 3) := by decide +kernel
theorem dX2_findMoving_9 : decode cX2_findMoving 9 = .ok (.imul, 1) := by decide +kernel
theorem dX2_findMoving_10 : decode cX2_findMoving 10 = .ok (.ishl, 1) := by decide +kernel
theorem dX2_findMoving_11 : decode cX2_findMoving 11 = .ok (.istore_n 3, 1) := by decide +kernel
theorem dX2_findMoving_12 : decode cX2_findMoving 12 = .ok (.iconst 0, 1) := by decide +kernel
theorem dX2_findMoving_13 : decode cX2_findMoving 13 = .ok (.istore 4, 2) := by decide +kernel
theorem dX2_findMoving_15 : decode cX2_findMoving 15 = .ok (.iload 4, 2) := by decide +kernel
theorem dX2_findMoving_17 : decode cX2_findMoving 17 = .ok (.iload_n 3, 1) := by decide +kernel
theorem dX2_findMoving_18 : decode cX2_findMoving 18 = .ok (.if_icmp .ge 29, 3) := by decide +kernel
theorem dX2_findMoving_21 : decode cX2_findMoving 21 = .ok (.aload_n 0, 1) := by decide +kernel
theorem dX2_findMoving_22 : decode cX2_findMoving 22 = .ok (.iload 4, 2) := by decide +kernel
theorem dX2_findMoving_24 : decode cX2_findMoving 24 = .ok (.invokevirtual 62, 3) := by decide +kernel
theorem dX2_findMoving_27 : decode cX2_findMoving 27 = .ok (.iload_n 1, 1) := by decide +kernel
theorem dX2_findMoving_28 : decode cX2_findMoving 28 = .ok (.if_icmp .ne 13, 3) := by decide +kernel
theorem dX2_findMoving_31 : decode cX2_findMoving 31 = .ok (.aload_n 0, 1) := by decide +kernel
theorem dX2_findMoving_32 : decode cX2_findMoving 32 = .ok (.iload_n 2, 1) := by decide +kernel
theorem dX2_findMoving_33 : decode cX2_findMoving 33 = .ok (.invokevirtual 66, 3) := by decide +kernel
theorem dX2_findMoving_36 : decode cX2_findMoving 36 = .ok (.ifCond .eq 5, 3) := by decide +kernel
theorem dX2_findMoving_39 : decode cX2_findMoving 39 = .ok (.iconst 1, 1) := by decide +kernel
theorem dX2_findMoving_40 : decode cX2_findMoving 40 = .ok (.ireturn, 1) := by decide +kernel
theorem dX2_findMoving_41 : decode cX2_findMoving 41 = .ok (.iinc 4 1, 3) := by decide +kernel
theorem dX2_findMoving_44 : decode cX2_findMoving 44 = .ok (.goto (-29), 3) := by decide +kernel
theorem dX2_findMoving_47 : decode cX2_findMoving 47 = .ok (.iconst 0, 1) := by decide +kernel
theorem dX2_findMoving_48 : decode cX2_findMoving 48 = .ok (.ireturn, 1) := by decide +kernel
set_option maxRecDepth 20000 in
theorem ggX2_countMoved_X3_isUp : GoodIn wsX2_countMoved wsX3_isUp := goodIn_r _ [10, 11, 17, 18, 19, 20, 21, 22, 23, 24, 25, 26, 27, 28] (by decide +kernel) (by decide +kernel)
set_option maxRecDepth 20000 in
theorem gX2_countMoved_X3_isUp : GoodIn wsX2_countMoved (wsV RX2 59 RX3 yX3_isUp wsX3_isUp) := goodIn_app (goodIn_of _ (by decide +kernel)) ggX2_countMoved_X3_isUp
theorem dX2_countMoved_0 : decode cX2_countMoved 0 = .ok (.iconst 0, 1) := by decide +kernel
theorem dX2_countMoved_1 : decode cX2_countMoved 1 = .ok (.istore_n 2, 1) := by decide +kernel
theorem dX2_countMoved_2 : decode cX2_countMoved 2 = .ok (.iconst 0, 1) := by decide +kernel
theorem dX2_countMoved_3 : decode cX2_countMoved 3 = .ok (.istore_n 3, 1) := by decide +kernel
theorem dX2_countMoved_4 : decode cX2_countMoved 4 = .ok (.iload_n 3, 1) := by decide +kernel
theorem dX2_countMoved_5 : decode cX2_countMoved 5 = .ok (.aload_n 0, 1) := by decide +kernel
theorem dX2_countMoved_6 : decode cX2_countMoved 6 = .ok (.getfield 18, 3) := by decide +kernel
theorem dX2_countMoved_9 : decode cX2_countMoved 9 = .ok (.getfield 45, 3) := by decide +kernel
theorem dX2_countMoved_12 : decode cX2_countMoved 12 = .ok (.if_icmp .ge 67, 3) := by decide +kernel
theorem dX2_countMoved_15 : decode cX2_countMoved 15 = .ok (.iload_n 1, 1) := by decide +kernel
theorem dX2_countMoved_16 : decode cX2_countMoved 16 = .ok (.iconst 2, 1) := by decide +kernel
theorem dX2_countMoved_17 : decode cX2_countMoved 17 = .ok (.aload_n 0, 1) := by decide +kernel
theorem dX2_countMoved_18 : decode cX2_countMoved 18 = .ok (.getfield 18, 3) := by decide +kernel
theorem dX2_countMoved_21 : decode cX2_countMoved 21 = .ok (.getfield 45, 3) := by decide +kernel
theorem dX2_countMoved_24 : decode cX2_countMoved 24 = .ok (.iconst 1, 1) := by decide +kernel
theorem dX2_countMoved_25 : decode cX2_countMoved 25 = .ok (.isub, 1) := by decide +kernel
theorem dX2_countMoved_26 : decode cX2_countMoved 26 = .ok (.iload_n 3, 1) := by decide +kernel
theorem dX2_countMoved_27 : decode cX2_countMoved 27 = .ok (.isub, 1) := by decide +kernel
theorem dX2_countMoved_28 : decode cX2_countMoved 28 = .ok (.imul, 1) := by decide +kernel
theorem dX2_countMoved_29 : decode cX2_countMoved 29 = .ok (.ishr, 1) := by decide +kernel
theorem dX2_countMoved_30 : decode cX2_countMoved 30 = .ok (.iconst 3, 1) := by decide +kernel
theorem dX2_countMoved_31 : decode cX2_countMoved 31 = .ok (.iand, 1) := by decide +kernel
theorem dX2_countMoved_32 : decode cX2_countMoved 32 = .ok (.istore 4, 2) := by decide +kernel
theorem dX2_countMoved_34 : decode cX2_countMoved 34 = .ok (.aload_n 0, 1) := by decide +kernel
theorem dX2_countMoved_35 : decode cX2_countMoved 35 = .ok (.getfield 25, 3) := by decide +kernel
theorem dX2_countMoved_38 : decode cX2_countMoved 38 = .ok (.iload_n 3, 1) := by decide +kernel
theorem dX2_countMoved_39 : decode cX2_countMoved 39 = .ok (.iload 4, 2) := by decide +kernel
theorem dX2_countMoved_41 : decode cX2_countMoved 41 = .ok (.iastore, 1) := by decide +kernel
theorem dX2_countMoved_42 : decode cX2_countMoved 42 = .ok (.iload 4, 2) := by decide +kernel
theorem dX2_countMoved_44 : decode cX2_countMoved 44 = .ok (.aload_n 0, 1) := by decide +kernel
theorem dX2_countMoved_45 : decode cX2_countMoved 45 = .ok (.getfield 18, 3) := by decide +kernel
theorem dX2_countMoved_48 : decode cX2_countMoved 48 = .ok (.getfield 69, 3) := by decide +kernel
theorem dX2_countMoved_51 : decode cX2_countMoved 51 = .ok (.iload_n 3, 1) := by decide +kernel
theorem dX2_countMoved_52 : decode cX2_countMoved 52 = .ok (.iaload, 1) := by decide +kernel
theorem dX2_countMoved_53 : decode cX2_countMoved 53 = .ok (.if_icmp .eq 20, 3) := by decide +kernel
theorem dX2_countMoved_56 : decode cX2_countMoved 56 = .ok (.aload_n 0, 1) := by decide +kernel
theorem dX2_countMoved_57 : decode cX2_countMoved 57 = .ok (.getfield 18, 3) := by decide +kernel
theorem dX2_countMoved_60 : decode cX2_countMoved 60 = .ok (.iload_n 3, 1) := by decide +kernel
theorem dX2_countMoved_61 : decode cX2_countMoved 61 = .ok (.invokevirtual 59, 3) := by decide +kernel
theorem dX2_countMoved_64 : decode cX2_countMoved 64 = .ok (.ifCond .eq 6, 3) := by decide +kernel
theorem dX2_countMoved_67 : decode cX2_countMoved 67 = .ok (.ldc 29, 2) := by decide +kernel
theorem dX2_countMoved_69 : decode cX2_countMoved 69 = .ok (.ireturn, 1) := by decide +kernel
theorem dX2_countMoved_70 : decode cX2_countMoved 70 = .ok (.iinc 2 1, 3) := by decide +kernel
theorem dX2_countMoved_73 : decode cX2_countMoved 73 = .ok (.iinc 3 1, 3) := by decide +kernel
theorem dX2_countMoved_76 : decode cX2_countMoved 76 = .ok (.goto (-72), 3) := by decide +kernel
theorem dX2_countMoved_79 : decode cX2_countMoved 79 = .ok (.iload_n 2, 1) := by decide +kernel
theorem dX2_countMoved_80 : decode cX2_countMoved 80 = .ok (.ireturn, 1) := by decide +kernel
set_option maxRecDepth 20000 in
theorem ggX2_holds_X3_allUp : GoodIn wsX2_holds wsX3_allUp := goodIn_r _ [11, 12, 13, 14, 15, 10, 16, 17, 69, 70, 71, 72, 73, 74, 75, 76, 77, 78, 79, 80] (by decide +kernel) (by decide +kernel)
set_option maxRecDepth 20000 in
theorem gX2_holds_X3_allUp : GoodIn wsX2_holds (wsV RX2 72 RX3 yX3_allUp wsX3_allUp) := goodIn_app (goodIn_of _ (by decide +kernel)) ggX2_holds_X3_allUp
set_option maxRecDepth 20000 in
theorem ggX2_holds_X3_become : GoodIn wsX2_holds wsX3_become := goodIn_r _ [21, 22, 12, 23, 24, 25, 26, 27, 17, 28, 29, 30, 69, 70, 71, 72, 73, 74, 75, 76, 77, 78, 79, 80] (by decide +kernel) (by decide +kernel)
set_option maxRecDepth 20000 in
theorem gX2_holds_X3_become : GoodIn wsX2_holds (wsV RX2 37 RX3 yX3_become wsX3_become) := goodIn_app (goodIn_of _ (by decide +kernel)) ggX2_holds_X3_become
set_option maxRecDepth 20000 in
theorem ggX2_holds_X3_firstTooNear : GoodIn wsX2_holds wsX3_firstTooNear := goodIn_r _ [34, 12, 35, 36, 37, 38, 10, 39, 28, 40, 41, 42, 43, 17, 24, 13, 14, 15, 16, 69, 70, 71, 72, 73, 74, 75, 76, 77, 78, 79, 80] (by decide +kernel) (by decide +kernel)
set_option maxRecDepth 20000 in
theorem gX2_holds_X3_firstTooNear : GoodIn wsX2_holds (wsV RX2 76 RX3 yX3_firstTooNear wsX3_firstTooNear) := goodIn_app (goodIn_of _ (by decide +kernel)) ggX2_holds_X3_firstTooNear
set_option maxRecDepth 20000 in
theorem ggX2_holds_X3_passYear : GoodIn wsX2_holds wsX3_passYear := goodIn_r _ [47, 12, 48, 17, 25, 49, 50, 51, 10, 52, 27, 53, 54, 42, 55, 13, 14, 15, 16, 56, 57, 58, 59, 29, 60, 61, 62, 63, 28, 69, 70, 71, 72, 73, 74, 75, 76, 77, 78, 79, 80] (by decide +kernel) (by decide +kernel)
set_option maxRecDepth 20000 in
theorem gX2_holds_X3_passYear : GoodIn wsX2_holds (wsV RX2 52 RX3 yX3_passYear wsX3_passYear) := goodIn_app (goodIn_of _ (by decide +kernel)) ggX2_holds_X3_passYear
theorem dX2_holds_0 : decode cX2_holds 0 = .ok (.aload_n 0, 1) := by decide +kernel
theorem dX2_holds_1 : decode cX2_holds 1 = .ok (.getfield 18, 3) := by decide +kernel
theorem dX2_holds_4 : decode cX2_holds 4 = .ok (.invokevirtual 72, 3) := by decide +kernel
theorem dX2_holds_7 : decode cX2_holds 7 = .ok (.istore_n 2, 1) := by decide +kernel
theorem dX2_holds_8 : decode cX2_holds 8 = .ok (.aload_n 0, 1) := by decide +kernel
theorem dX2_holds_9 : decode cX2_holds 9 = .ok (.getfield 12, 3) := by decide +kernel
theorem dX2_holds_12 : decode cX2_holds 12 = .ok (.aload_n 0, 1) := by decide +kernel
theorem dX2_holds_13 : decode cX2_holds 13 = .ok (.getfield 18, 3) := by decide +kernel
theorem dX2_holds_16 : decode cX2_holds 16 = .ok (.invokevirtual 37, 3) := by decide +kernel
theorem dX2_holds_19 : decode cX2_holds 19 = .ok (.iconst 0, 1) := by decide +kernel
theorem dX2_holds_20 : decode cX2_holds 20 = .ok (.istore_n 3, 1) := by decide +kernel
theorem dX2_holds_21 : decode cX2_holds 21 = .ok (.iload_n 3, 1) := by decide +kernel
theorem dX2_holds_22 : decode cX2_holds 22 = .ok (.aload_n 0, 1) := by decide +kernel
theorem dX2_holds_23 : decode cX2_holds 23 = .ok (.getfield 18, 3) := by decide +kernel
theorem dX2_holds_26 : decode cX2_holds 26 = .ok (.getfield 45, 3) := by decide +kernel
theorem dX2_holds_29 : decode cX2_holds 29 = .ok (.if_icmp .ge 24, 3) := by decide +kernel
theorem dX2_holds_32 : decode cX2_holds 32 = .ok (.aload_n 0, 1) := by decide +kernel
theorem dX2_holds_33 : decode cX2_holds 33 = .ok (.getfield 12, 3) := by decide +kernel
theorem dX2_holds_36 : decode cX2_holds 36 = .ok (.getfield 69, 3) := by decide +kernel
theorem dX2_holds_39 : decode cX2_holds 39 = .ok (.iload_n 3, 1) := by decide +kernel
theorem dX2_holds_40 : decode cX2_holds 40 = .ok (.aload_n 0, 1) := by decide +kernel
theorem dX2_holds_41 : decode cX2_holds 41 = .ok (.getfield 25, 3) := by decide +kernel
theorem dX2_holds_44 : decode cX2_holds 44 = .ok (.iload_n 3, 1) := by decide +kernel
theorem dX2_holds_45 : decode cX2_holds 45 = .ok (.iaload, 1) := by decide +kernel
theorem dX2_holds_46 : decode cX2_holds 46 = .ok (.iastore, 1) := by decide +kernel
theorem dX2_holds_47 : decode cX2_holds 47 = .ok (.iinc 3 1, 3) := by decide +kernel
theorem dX2_holds_50 : decode cX2_holds 50 = .ok (.goto (-29), 3) := by decide +kernel
theorem dX2_holds_53 : decode cX2_holds 53 = .ok (.aload_n 0, 1) := by decide +kernel
theorem dX2_holds_54 : decode cX2_holds 54 = .ok (.getfield 12, 3) := by decide +kernel
theorem dX2_holds_57 : decode cX2_holds 57 = .ok (.invokevirtual 76, 3) := by decide +kernel
theorem dX2_holds_60 : decode cX2_holds 60 = .ok (.ldc 29, 2) := by decide +kernel
theorem dX2_holds_62 : decode cX2_holds 62 = .ok (.if_icmp .eq 5, 3) := by decide +kernel
theorem dX2_holds_65 : decode cX2_holds 65 = .ok (.iconst 0, 1) := by decide +kernel
theorem dX2_holds_66 : decode cX2_holds 66 = .ok (.ireturn, 1) := by decide +kernel
theorem dX2_holds_67 : decode cX2_holds 67 = .ok (.iconst 0, 1) := by decide +kernel
theorem dX2_holds_68 : decode cX2_holds 68 = .ok (.istore_n 3, 1) := by decide +kernel
theorem dX2_holds_69 : decode cX2_holds 69 = .ok (.iload_n 3, 1) := by decide +kernel
theorem dX2_holds_70 : decode cX2_holds 70 = .ok (.iload_n 1, 1) := by decide +kernel
theorem dX2_holds_71 : decode cX2_holds 71 = .ok (.if_icmp .ge 44, 3) := by decide +kernel
theorem dX2_holds_74 : decode cX2_holds 74 = .ok (.aload_n 0, 1) := by decide +kernel
theorem dX2_holds_75 : decode cX2_holds 75 = .ok (.getfield 12, 3) := by decide +kernel
theorem dX2_holds_78 : decode cX2_holds 78 = .ok (.invokevirtual 52, 3) := by decide +kernel
theorem dX2_holds_81 : decode cX2_holds 81 = .ok (.ifCond .eq 28, 3) := by decide +kernel
theorem dX2_holds_84 : decode cX2_holds 84 = .ok (.aload_n 0, 1) := by decide +kernel
theorem dX2_holds_85 : decode cX2_holds 85 = .ok (.getfield 12, 3) := by decide +kernel
theorem dX2_holds_88 : decode cX2_holds 88 = .ok (.invokevirtual 72, 3) := by decide +kernel
theorem dX2_holds_91 : decode cX2_holds 91 = .ok (.iload_n 2, 1) := by decide +kernel
theorem dX2_holds_92 : decode cX2_holds 92 = .ok (.if_icmp .ne 15, 3) := by decide +kernel
theorem dX2_holds_95 : decode cX2_holds 95 = .ok (.aload_n 0, 1) := by decide +kernel
theorem dX2_holds_96 : decode cX2_holds 96 = .ok (.getfield 12, 3) := by decide +kernel
theorem dX2_holds_99 : decode cX2_holds 99 = .ok (.invokevirtual 76, 3) := by decide +kernel
theorem dX2_holds_102 : decode cX2_holds 102 = .ok (.ldc 29, 2) := by decide +kernel
theorem dX2_holds_104 : decode cX2_holds 104 = .ok (.if_icmp .eq 5, 3) := by decide +kernel
theorem dX2_holds_107 : decode cX2_holds 107 = .ok (.iconst 0, 1) := by decide +kernel
theorem dX2_holds_108 : decode cX2_holds 108 = .ok (.ireturn, 1) := by decide +kernel
theorem dX2_holds_109 : decode cX2_holds 109 = .ok (.iinc 3 1, 3) := by decide +kernel
theorem dX2_holds_112 : decode cX2_holds 112 = .ok (.goto (-43), 3) := by decide +kernel
theorem dX2_holds_115 : decode cX2_holds 115 = .ok (.iconst 1, 1) := by decide +kernel
theorem dX2_holds_116 : decode cX2_holds 116 = .ok (.ireturn, 1) := by decide +kernel
theorem dX3_init_0 : decode cX3_init 0 = .ok (.aload_n 0, 1) := by decide +kernel
theorem dX3_init_1 : decode cX3_init 1 = .ok (.invokespecial 3, 3) := by decide +kernel
theorem dX3_init_4 : decode cX3_init 4 = .ok (.aload_n 0, 1) := by decide +kernel
theorem dX3_init_5 : decode cX3_init 5 = .ok (.iconst 0, 1) := by decide +kernel
theorem dX3_init_6 : decode cX3_init 6 = .ok (.putfield 9, 3) := by decide +kernel
theorem dX3_init_9 : decode cX3_init 9 = .ok (.aload_n 0, 1) := by decide +kernel
theorem dX3_init_10 : decode cX3_init 10 = .ok (.iconst 0, 1) := by decide +kernel
theorem dX3_init_11 : decode cX3_init 11 = .ok (.putfield 15, 3) := by decide +kernel
theorem dX3_init_14 : decode cX3_init 14 = .ok (.aload_n 0, 1) := by decide +kernel
theorem dX3_init_15 : decode cX3_init 15 = .ok (.iconst 0, 1) := by decide +kernel
theorem dX3_init_16 : decode cX3_init 16 = .ok (.putfield 19, 3) := by decide +kernel
theorem dX3_init_19 : decode cX3_init 19 = .ok (.aload_n 0, 1) := by decide +kernel
theorem dX3_init_20 : decode cX3_init 20 = .ok (.iconst 0, 1) := by decide +kernel
theorem dX3_init_21 : decode cX3_init 21 = .ok (.putfield 22, 3) := by decide +kernel
theorem dX3_init_24 : decode cX3_init 24 = .ok (.aload_n 0, 1) := by decide +kernel
theorem dX3_init_25 : decode cX3_init 25 = .ok (.iconst 0, 1) := by decide +kernel
theorem dX3_init_26 : decode cX3_init 26 = .ok (.putfield 25, 3) := by decide +kernel
theorem dX3_init_29 : decode cX3_init 29 = .ok (.aload_n 0, 1) := by decide +kernel
theorem dX3_init_30 : decode cX3_init 30 = .ok (.iconst 0, 1) := by decide +kernel
theorem dX3_init_31 : decode cX3_init 31 = .ok (.putfield 28, 3) := by decide +kernel
theorem dX3_init_34 : decode cX3_init 34 = .ok (.aload_n 0, 1) := by decide +kernel
theorem dX3_init_35 : decode cX3_init 35 = .ok (.iconst 5, 1) := by decide +kernel
theorem dX3_init_36 : decode cX3_init 36 = .ok (.newarray .int, 2) := by decide +kernel
theorem dX3_init_38 : decode cX3_init 38 = .ok (.putfield 31, 3) := by decide +kernel
theorem dX3_init_41 : decode cX3_init 41 = .ok (.aload_n 0, 1) := by decide +kernel
theorem dX3_init_42 : decode cX3_init 42 = .ok (.iconst 5, 1) := by decide +kernel
theorem dX3_init_43 : decode cX3_init 43 = .ok (.newarray .int, 2) := by decide +kernel
theorem dX3_init_45 : decode cX3_init 45 = .ok (.putfield 35, 3) := by decide +kernel
theorem dX3_init_48 : decode cX3_init 48 = .ok (.aload_n 0, 1) := by decide +kernel
theorem dX3_init_49 : decode cX3_init 49 = .ok (.iconst 5, 1) := by decide +kernel
theorem dX3_init_50 : decode cX3_init 50 = .ok (.newarray .int, 2) := by decide +kernel
theorem dX3_init_52 : decode cX3_init 52 = .ok (.putfield 38, 3) := by decide +kernel
theorem dX3_init_55 : decode cX3_init 55 = .ok (.aload_n 0, 1) := by decide +kernel
theorem dX3_init_56 : decode cX3_init 56 = .ok (.iconst 5, 1) := by decide +kernel
theorem dX3_init_57 : decode cX3_init 57 = .ok (.newarray .int, 2) := by decide +kernel
theorem dX3_init_59 : decode cX3_init 59 = .ok (.putfield 41, 3) := by decide +kernel
theorem dX3_init_62 : decode cX3_init 62 = .ok (.aload_n 0, 1) := by decide +kernel
theorem dX3_init_63 : decode cX3_init 63 = .ok (.iconst 5, 1) := by decide +kernel
theorem dX3_init_64 : decode cX3_init 64 = .ok (.newarray .int, 2) := by decide +kernel
theorem dX3_init_66 : decode cX3_init 66 = .ok (.putfield 44, 3) := by decide +kernel
theorem dX3_init_69 : decode cX3_init 69 = .ok (.aload_n 0, 1) := by decide +kernel
theorem dX3_init_70 : decode cX3_init 70 = .ok (.iconst 5, 1) := by decide +kernel
theorem dX3_init_71 : decode cX3_init 71 = .ok (.newarray .int, 2) := by decide +kernel
theorem dX3_init_73 : decode cX3_init 73 = .ok (.putfield 47, 3) := by decide +kernel
theorem dX3_init_76 : decode cX3_init 76 = .ok (.return_, 1) := by decide +kernel
theorem dX3_become_0 : decode cX3_become 0 = .ok (.aload_n 0, 1) := by decide +kernel
theorem dX3_become_1 : decode cX3_become 1 = .ok (.aload_n 1, 1) := by decide +kernel
theorem dX3_become_2 : decode cX3_become 2 = .ok (.getfield 9, 3) := by decide +kernel
theorem dX3_become_5 : decode cX3_become 5 = .ok (.putfield 9, 3) := by decide +kernel
theorem dX3_become_8 : decode cX3_become 8 = .ok (.aload_n 0, 1) := by decide +kernel
theorem dX3_become_9 : decode cX3_become 9 = .ok (.aload_n 1, 1) := by decide +kernel
theorem dX3_become_10 : decode cX3_become 10 = .ok (.getfield 15, 3) := by decide +kernel
theorem dX3_become_13 : decode cX3_become 13 = .ok (.putfield 15, 3) := by decide +kernel
theorem dX3_become_16 : decode cX3_become 16 = .ok (.aload_n 0, 1) := by decide +kernel
theorem dX3_become_17 : decode cX3_become 17 = .ok (.aload_n 1, 1) := by decide +kernel
theorem dX3_become_18 : decode cX3_become 18 = .ok (.getfield 19, 3) := by decide +kernel
theorem dX3_become_21 : decode cX3_become 21 = .ok (.putfield 19, 3) := by decide +kernel
theorem dX3_become_24 : decode cX3_become 24 = .ok (.aload_n 0, 1) := by decide +kernel
theorem dX3_become_25 : decode cX3_become 25 = .ok (.aload_n 1, 1) := by decide +kernel
theorem dX3_become_26 : decode cX3_become 26 = .ok (.getfield 22, 3) := by decide +kernel
theorem dX3_become_29 : decode cX3_become 29 = .ok (.putfield 22, 3) := by decide +kernel
theorem dX3_become_32 : decode cX3_become 32 = .ok (.aload_n 0, 1) := by decide +kernel
theorem dX3_become_33 : decode cX3_become 33 = .ok (.aload_n 1, 1) := by decide +kernel
theorem dX3_become_34 : decode cX3_become 34 = .ok (.getfield 25, 3) := by decide +kernel
theorem dX3_become_37 : decode cX3_become 37 = .ok (.putfield 25, 3) := by decide +kernel
theorem dX3_become_40 : decode cX3_become 40 = .ok (.aload_n 0, 1) := by decide +kernel
theorem dX3_become_41 : decode cX3_become 41 = .ok (.aload_n 1, 1) := by decide +kernel
theorem dX3_become_42 : decode cX3_become 42 = .ok (.getfield 28, 3) := by decide +kernel
theorem dX3_become_45 : decode cX3_become 45 = .ok (.putfield 28, 3) := by decide +kernel
theorem dX3_become_48 : decode cX3_become 48 = .ok (.iconst 0, 1) := by decide +kernel
theorem dX3_become_49 : decode cX3_become 49 = .ok (.istore_n 2, 1) := by decide +kernel
theorem dX3_become_50 : decode cX3_become 50 = .ok (.iload_n 2, 1) := by decide +kernel
theorem dX3_become_51 : decode cX3_become 51 = .ok (.iconst 5, 1) := by decide +kernel
theorem dX3_become_52 : decode cX3_become 52 = .ok (.if_icmp .ge 69, 3) := by decide +kernel
theorem dX3_become_55 : decode cX3_become 55 = .ok (.aload_n 0, 1) := by decide +kernel
theorem dX3_become_56 : decode cX3_become 56 = .ok (.getfield 31, 3) := by decide +kernel
theorem dX3_become_59 : decode cX3_become 59 = .ok (.iload_n 2, 1) := by decide +kernel
theorem dX3_become_60 : decode cX3_become 60 = .ok (.aload_n 1, 1) := by decide +kernel
theorem dX3_become_61 : decode cX3_become 61 = .ok (.getfield 31, 3) := by decide +kernel
theorem dX3_become_64 : decode cX3_become 64 = .ok (.iload_n 2, 1) := by decide +kernel
theorem dX3_become_65 : decode cX3_become 65 = .ok (.iaload, 1) := by decide +kernel
theorem dX3_become_66 : decode cX3_become 66 = .ok (.iastore, 1) := by decide +kernel
theorem dX3_become_67 : decode cX3_become 67 = .ok (.aload_n 0, 1) := by decide +kernel
theorem dX3_become_68 : decode cX3_become 68 = .ok (.getfield 35, 3) := by decide +kernel
theorem dX3_become_71 : decode cX3_become 71 = .ok (.iload_n 2, 1) := by decide +kernel
theorem dX3_become_72 : decode cX3_become 72 = .ok (.aload_n 1, 1) := by decide +kernel
theorem dX3_become_73 : decode cX3_become 73 = .ok (.getfield 35, 3) := by decide +kernel
theorem dX3_become_76 : decode cX3_become 76 = .ok (.iload_n 2, 1) := by decide +kernel
theorem dX3_become_77 : decode cX3_become 77 = .ok (.iaload, 1) := by decide +kernel
theorem dX3_become_78 : decode cX3_become 78 = .ok (.iastore, 1) := by decide +kernel
theorem dX3_become_79 : decode cX3_become 79 = .ok (.aload_n 0, 1) := by decide +kernel
theorem dX3_become_80 : decode cX3_become 80 = .ok (.getfield 38, 3) := by decide +kernel
theorem dX3_become_83 : decode cX3_become 83 = .ok (.iload_n 2, 1) := by decide +kernel
theorem dX3_become_84 : decode cX3_become 84 = .ok (.aload_n 1, 1) := by decide +kernel
theorem dX3_become_85 : decode cX3_become 85 = .ok (.getfield 38, 3) := by decide +kernel
theorem dX3_become_88 : decode cX3_become 88 = .ok (.iload_n 2, 1) := by decide +kernel
theorem dX3_become_89 : decode cX3_become 89 = .ok (.iaload, 1) := by decide +kernel
theorem dX3_become_90 : decode cX3_become 90 = .ok (.iastore, 1) := by decide +kernel
theorem dX3_become_91 : decode cX3_become 91 = .ok (.aload_n 0, 1) := by decide +kernel
theorem dX3_become_92 : decode cX3_become 92 = .ok (.getfield 41, 3) := by decide +kernel
theorem dX3_become_95 : decode cX3_become 95 = .ok (.iload_n 2, 1) := by decide +kernel
theorem dX3_become_96 : decode cX3_become 96 = .ok (.aload_n 1, 1) := by decide +kernel
theorem dX3_become_97 : decode cX3_become 97 = .ok (.getfield 41, 3) := by decide +kernel
theorem dX3_become_100 : decode cX3_become 100 = .ok (.iload_n 2, 1) := by decide +kernel
theorem dX3_become_101 : decode cX3_become 101 = .ok (.iaload, 1) := by decide +kernel
theorem dX3_become_102 : decode cX3_become 102 = .ok (.iastore, 1) := by decide +kernel
theorem dX3_become_103 : decode cX3_become 103 = .ok (.aload_n 0, 1) := by decide +kernel
theorem dX3_become_104 : decode cX3_become 104 = .ok (.getfield 44, 3) := by decide +kernel
theorem dX3_become_107 : decode cX3_become 107 = .ok (.iload_n 2, 1) := by decide +kernel
theorem dX3_become_108 : decode cX3_become 108 = .ok (.aload_n 1, 1) := by decide +kernel
theorem dX3_become_109 : decode cX3_become 109 = .ok (.getfield 44, 3) := by decide +kernel
theorem dX3_become_112 : decode cX3_become 112 = .ok (.iload_n 2, 1) := by decide +kernel
theorem dX3_become_113 : decode cX3_become 113 = .ok (.iaload, 1) := by decide +kernel
theorem dX3_become_114 : decode cX3_become 114 = .ok (.iastore, 1) := by decide +kernel
theorem dX3_become_115 : decode cX3_become 115 = .ok (.iinc 2 1, 3) := by decide +kernel
theorem dX3_become_118 : decode cX3_become 118 = .ok (.goto (-68), 3) := by decide +kernel
theorem dX3_become_121 : decode cX3_become 121 = .ok (.return_, 1) := by decide +kernel
theorem dX3_foretellsLike_0 : decode cX3_foretellsLike 0 = .ok (.aload_n 0, 1) := by decide +kernel
theorem dX3_foretellsLike_1 : decode cX3_foretellsLike 1 = .ok (.getfield 15, 3) := by decide +kernel
theorem dX3_foretellsLike_4 : decode cX3_foretellsLike 4 = .ok (.aload_n 1, 1) := by decide +kernel
theorem dX3_foretellsLike_5 : decode cX3_foretellsLike 5 = .ok (.getfield 15, 3) := by decide +kernel
theorem dX3_foretellsLike_8 : decode cX3_foretellsLike 8 = .ok (.if_icmp .ne 25, 3) := by decide +kernel
theorem dX3_foretellsLike_11 : decode cX3_foretellsLike 11 = .ok (.aload_n 0, 1) := by decide +kernel
theorem dX3_foretellsLike_12 : decode cX3_foretellsLike 12 = .ok (.getfield 22, 3) := by decide +kernel
theorem dX3_foretellsLike_15 : decode cX3_foretellsLike 15 = .ok (.aload_n 1, 1) := by decide +kernel
theorem dX3_foretellsLike_16 : decode cX3_foretellsLike 16 = .ok (.getfield 22, 3) := by decide +kernel
theorem dX3_foretellsLike_19 : decode cX3_foretellsLike 19 = .ok (.if_icmp .ne 14, 3) := by decide +kernel
theorem dX3_foretellsLike_22 : decode cX3_foretellsLike 22 = .ok (.aload_n 0, 1) := by decide +kernel
theorem dX3_foretellsLike_23 : decode cX3_foretellsLike 23 = .ok (.getfield 25, 3) := by decide +kernel
theorem dX3_foretellsLike_26 : decode cX3_foretellsLike 26 = .ok (.aload_n 1, 1) := by decide +kernel
theorem dX3_foretellsLike_27 : decode cX3_foretellsLike 27 = .ok (.getfield 25, 3) := by decide +kernel
theorem dX3_foretellsLike_30 : decode cX3_foretellsLike 30 = .ok (.if_icmp .eq 5, 3) := by decide +kernel
theorem dX3_foretellsLike_33 : decode cX3_foretellsLike 33 = .ok (.iconst 0, 1) := by decide +kernel
theorem dX3_foretellsLike_34 : decode cX3_foretellsLike 34 = .ok (.ireturn, 1) := by decide +kernel
theorem dX3_foretellsLike_35 : decode cX3_foretellsLike 35 = .ok (.iconst 0, 1) := by decide +kernel
theorem dX3_foretellsLike_36 : decode cX3_foretellsLike 36 = .ok (.istore_n 2, 1) := by decide +kernel
theorem dX3_foretellsLike_37 : decode cX3_foretellsLike 37 = .ok (.iload_n 2, 1) := by decide +kernel
theorem dX3_foretellsLike_38 : decode cX3_foretellsLike 38 = .ok (.aload_n 0, 1) := by decide +kernel
theorem dX3_foretellsLike_39 : decode cX3_foretellsLike 39 = .ok (.getfield 15, 3) := by decide +kernel
theorem dX3_foretellsLike_42 : decode cX3_foretellsLike 42 = .ok (.if_icmp .ge 71, 3) := by decide +kernel
theorem dX3_foretellsLike_45 : decode cX3_foretellsLike 45 = .ok (.aload_n 0, 1) := by decide +kernel
theorem dX3_foretellsLike_46 : decode cX3_foretellsLike 46 = .ok (.getfield 31, 3) := by decide +kernel
theorem dX3_foretellsLike_49 : decode cX3_foretellsLike 49 = .ok (.iload_n 2, 1) := by decide +kernel
theorem dX3_foretellsLike_50 : decode cX3_foretellsLike 50 = .ok (.iaload, 1) := by decide +kernel
theorem dX3_foretellsLike_51 : decode cX3_foretellsLike 51 = .ok (.aload_n 1, 1) := by decide +kernel
theorem dX3_foretellsLike_52 : decode cX3_foretellsLike 52 = .ok (.getfield 31, 3) := by decide +kernel
theorem dX3_foretellsLike_55 : decode cX3_foretellsLike 55 = .ok (.iload_n 2, 1) := by decide +kernel
theorem dX3_foretellsLike_56 : decode cX3_foretellsLike 56 = .ok (.iaload, 1) := by decide +kernel
theorem dX3_foretellsLike_57 : decode cX3_foretellsLike 57 = .ok (.if_icmp .ne 48, 3) := by decide +kernel
theorem dX3_foretellsLike_60 : decode cX3_foretellsLike 60 = .ok (.aload_n 0, 1) := by decide +kernel
theorem dX3_foretellsLike_61 : decode cX3_foretellsLike 61 = .ok (.getfield 35, 3) := by decide +kernel
theorem dX3_foretellsLike_64 : decode cX3_foretellsLike 64 = .ok (.iload_n 2, 1) := by decide +kernel
theorem dX3_foretellsLike_65 : decode cX3_foretellsLike 65 = .ok (.iaload, 1) := by decide +kernel
theorem dX3_foretellsLike_66 : decode cX3_foretellsLike 66 = .ok (.aload_n 1, 1) := by decide +kernel
theorem dX3_foretellsLike_67 : decode cX3_foretellsLike 67 = .ok (.getfield 35, 3) := by decide +kernel
theorem dX3_foretellsLike_70 : decode cX3_foretellsLike 70 = .ok (.iload_n 2, 1) := by decide +kernel
theorem dX3_foretellsLike_71 : decode cX3_foretellsLike 71 = .ok (.iaload, 1) := by decide +kernel
theorem dX3_foretellsLike_72 : decode cX3_foretellsLike 72 = .ok (.if_icmp .ne 33, 3) := by decide +kernel
theorem dX3_foretellsLike_75 : decode cX3_foretellsLike 75 = .ok (.aload_n 0, 1) := by decide +kernel
theorem dX3_foretellsLike_76 : decode cX3_foretellsLike 76 = .ok (.getfield 38, 3) := by decide +kernel
theorem dX3_foretellsLike_79 : decode cX3_foretellsLike 79 = .ok (.iload_n 2, 1) := by decide +kernel
theorem dX3_foretellsLike_80 : decode cX3_foretellsLike 80 = .ok (.iaload, 1) := by decide +kernel
theorem dX3_foretellsLike_81 : decode cX3_foretellsLike 81 = .ok (.aload_n 1, 1) := by decide +kernel
theorem dX3_foretellsLike_82 : decode cX3_foretellsLike 82 = .ok (.getfield 38, 3) := by decide +kernel
theorem dX3_foretellsLike_85 : decode cX3_foretellsLike 85 = .ok (.iload_n 2, 1) := by decide +kernel
theorem dX3_foretellsLike_86 : decode cX3_foretellsLike 86 = .ok (.iaload, 1) := by decide +kernel
theorem dX3_foretellsLike_87 : decode cX3_foretellsLike 87 = .ok (.if_icmp .ne 18, 3) := by decide +kernel
theorem dX3_foretellsLike_90 : decode cX3_foretellsLike 90 = .ok (.aload_n 0, 1) := by decide +kernel
theorem dX3_foretellsLike_91 : decode cX3_foretellsLike 91 = .ok (.getfield 41, 3) := by decide +kernel
theorem dX3_foretellsLike_94 : decode cX3_foretellsLike 94 = .ok (.iload_n 2, 1) := by decide +kernel
theorem dX3_foretellsLike_95 : decode cX3_foretellsLike 95 = .ok (.iaload, 1) := by decide +kernel
theorem dX3_foretellsLike_96 : decode cX3_foretellsLike 96 = .ok (.aload_n 1, 1) := by decide +kernel
theorem dX3_foretellsLike_97 : decode cX3_foretellsLike 97 = .ok (.getfield 41, 3) := by decide +kernel
theorem dX3_foretellsLike_100 : decode cX3_foretellsLike 100 = .ok (.iload_n 2, 1) := by decide +kernel
theorem dX3_foretellsLike_101 : decode cX3_foretellsLike 101 = .ok (.iaload, 1) := by decide +kernel
theorem dX3_foretellsLike_102 : decode cX3_foretellsLike 102 = .ok (.if_icmp .eq 5, 3) := by decide +kernel
theorem dX3_foretellsLike_105 : decode cX3_foretellsLike 105 = .ok (.iconst 0, 1) := by decide +kernel
theorem dX3_foretellsLike_106 : decode cX3_foretellsLike 106 = .ok (.ireturn, 1) := by decide +kernel
theorem dX3_foretellsLike_107 : decode cX3_foretellsLike 107 = .ok (.iinc 2 1, 3) := by decide +kernel
theorem dX3_foretellsLike_110 : decode cX3_foretellsLike 110 = .ok (.goto (-73), 3) := by decide +kernel
theorem dX3_foretellsLike_113 : decode cX3_foretellsLike 113 = .ok (.iconst 1, 1) := by decide +kernel
theorem dX3_foretellsLike_114 : decode cX3_foretellsLike 114 = .ok (.ireturn, 1) := by decide +kernel
theorem dX3_isUp_0 : decode cX3_isUp 0 = .ok (.aload_n 0, 1) := by decide +kernel
theorem dX3_isUp_1 : decode cX3_isUp 1 = .ok (.getfield 35, 3) := by decide +kernel
theorem dX3_isUp_4 : decode cX3_isUp 4 = .ok (.iload_n 1, 1) := by decide +kernel
theorem dX3_isUp_5 : decode cX3_isUp 5 = .ok (.iaload, 1) := by decide +kernel
theorem dX3_isUp_6 : decode cX3_isUp 6 = .ok (.ifCond .ne 7, 3) := by decide +kernel
theorem dX3_isUp_9 : decode cX3_isUp 9 = .ok (.iconst 1, 1) := by decide +kernel
theorem dX3_isUp_10 : decode cX3_isUp 10 = .ok (.goto 4, 3) := by decide +kernel
theorem dX3_isUp_13 : decode cX3_isUp 13 = .ok (.iconst 0, 1) := by decide +kernel
theorem dX3_isUp_14 : decode cX3_isUp 14 = .ok (.ireturn, 1) := by decide +kernel
set_option maxRecDepth 20000 in
theorem ggX3_allUp_X3_isUp : GoodIn wsX3_allUp wsX3_isUp := goodIn_r _ [6, 7, 8, 9, 10, 11, 12, 13, 14, 15, 16, 17, 18, 19] (by decide +kernel) (by decide +kernel)
set_option maxRecDepth 20000 in
theorem gX3_allUp_X3_isUp : GoodIn wsX3_allUp (wsV RX3 50 RX3 yX3_isUp wsX3_isUp) := goodIn_app (goodIn_of _ (by decide +kernel)) ggX3_allUp_X3_isUp
theorem dX3_allUp_0 : decode cX3_allUp 0 = .ok (.iconst 0, 1) := by decide +kernel
theorem dX3_allUp_1 : decode cX3_allUp 1 = .ok (.istore_n 1, 1) := by decide +kernel
theorem dX3_allUp_2 : decode cX3_allUp 2 = .ok (.iconst 0, 1) := by decide +kernel
theorem dX3_allUp_3 : decode cX3_allUp 3 = .ok (.istore_n 2, 1) := by decide +kernel
theorem dX3_allUp_4 : decode cX3_allUp 4 = .ok (.iload_n 2, 1) := by decide +kernel
theorem dX3_allUp_5 : decode cX3_allUp 5 = .ok (.aload_n 0, 1) := by decide +kernel
theorem dX3_allUp_6 : decode cX3_allUp 6 = .ok (.getfield 15, 3) := by decide +kernel
theorem dX3_allUp_9 : decode cX3_allUp 9 = .ok (.if_icmp .ge 23, 3) := by decide +kernel
theorem dX3_allUp_12 : decode cX3_allUp 12 = .ok (.aload_n 0, 1) := by decide +kernel
theorem dX3_allUp_13 : decode cX3_allUp 13 = .ok (.iload_n 2, 1) := by decide +kernel
theorem dX3_allUp_14 : decode cX3_allUp 14 = .ok (.invokevirtual 50, 3) := by decide +kernel
theorem dX3_allUp_17 : decode cX3_allUp 17 = .ok (.ifCond .eq 9, 3) := by decide +kernel
theorem dX3_allUp_20 : decode cX3_allUp 20 = .ok (.iload_n 1, 1) := by decide +kernel
theorem dX3_allUp_21 : decode cX3_allUp 21 = .ok (.iconst 1, 1) := by decide +kernel
theorem dX3_allUp_22 : decode cX3_allUp 22 = .ok (.iload_n 2, 1) := by decide +kernel
theorem dX3_allUp_23 : decode cX3_allUp 23 = .ok (.ishl, 1) := by decide +kernel
theorem dX3_allUp_24 : decode cX3_allUp 24 = .ok (.ior, 1) := by decide +kernel
theorem dX3_allUp_25 : decode cX3_allUp 25 = .ok (.istore_n 1, 1) := by decide +kernel
theorem dX3_allUp_26 : decode cX3_allUp 26 = .ok (.iinc 2 1, 3) := by decide +kernel
theorem dX3_allUp_29 : decode cX3_allUp 29 = .ok (.goto (-25), 3) := by decide +kernel
theorem dX3_allUp_32 : decode cX3_allUp 32 = .ok (.iload_n 1, 1) := by decide +kernel
theorem dX3_allUp_33 : decode cX3_allUp 33 = .ok (.ireturn, 1) := by decide +kernel
set_option maxRecDepth 20000 in
theorem ggX3_areTooNear_X3_isUp : GoodIn wsX3_areTooNear wsX3_isUp := goodIn_r _ [12, 6, 13, 14, 15, 16, 17, 18, 19, 20, 21, 22, 23, 24] (by decide +kernel) (by decide +kernel)
set_option maxRecDepth 20000 in
theorem gX3_areTooNear_X3_isUp : GoodIn wsX3_areTooNear (wsV RX3 50 RX3 yX3_isUp wsX3_isUp) := goodIn_app (goodIn_of _ (by decide +kernel)) ggX3_areTooNear_X3_isUp
theorem dX3_areTooNear_0 : decode cX3_areTooNear 0 = .ok (.aload_n 0, 1) := by decide +kernel
theorem dX3_areTooNear_1 : decode cX3_areTooNear 1 = .ok (.iload_n 1, 1) := by decide +kernel
theorem dX3_areTooNear_2 : decode cX3_areTooNear 2 = .ok (.invokevirtual 50, 3) := by decide +kernel
theorem dX3_areTooNear_5 : decode cX3_areTooNear 5 = .ok (.ifCond .ne 58, 3) := by decide +kernel
theorem dX3_areTooNear_8 : decode cX3_areTooNear 8 = .ok (.aload_n 0, 1) := by decide +kernel
theorem dX3_areTooNear_9 : decode cX3_areTooNear 9 = .ok (.iload_n 2, 1) := by decide +kernel
theorem dX3_areTooNear_10 : decode cX3_areTooNear 10 = .ok (.invokevirtual 50, 3) := by decide +kernel
theorem dX3_areTooNear_13 : decode cX3_areTooNear 13 = .ok (.ifCond .ne 50, 3) := by decide +kernel
theorem dX3_areTooNear_16 : decode cX3_areTooNear 16 = .ok (.aload_n 0, 1) := by decide +kernel
theorem dX3_areTooNear_17 : decode cX3_areTooNear 17 = .ok (.getfield 38, 3) := by decide +kernel
theorem dX3_areTooNear_20 : decode cX3_areTooNear 20 = .ok (.iload_n 1, 1) := by decide +kernel
theorem dX3_areTooNear_21 : decode cX3_areTooNear 21 = .ok (.iaload, 1) := by decide +kernel
theorem dX3_areTooNear_22 : decode cX3_areTooNear 22 = .ok (.aload_n 0, 1) := by decide +kernel
theorem dX3_areTooNear_23 : decode cX3_areTooNear 23 = .ok (.getfield 38, 3) := by decide +kernel
theorem dX3_areTooNear_26 : decode cX3_areTooNear 26 = .ok (.iload_n 2, 1) := by decide +kernel
theorem dX3_areTooNear_27 : decode cX3_areTooNear 27 = .ok (.iaload, 1) := by decide +kernel
theorem dX3_areTooNear_28 : decode cX3_areTooNear 28 = .ok (.isub, 1) := by decide +kernel
theorem dX3_areTooNear_29 : decode cX3_areTooNear 29 = .ok (.invokestatic 54, 3) := by decide +kernel
theorem dX3_areTooNear_32 : decode cX3_areTooNear 32 = .ok (.iconst 1, 1) := by decide +kernel
theorem dX3_areTooNear_33 : decode cX3_areTooNear 33 = .ok (.if_icmp .gt 30, 3) := by decide +kernel
theorem dX3_areTooNear_36 : decode cX3_areTooNear 36 = .ok (.aload_n 0, 1) := by decide +kernel
theorem dX3_areTooNear_37 : decode cX3_areTooNear 37 = .ok (.getfield 35, 3) := by decide +kernel
theorem dX3_areTooNear_40 : decode cX3_areTooNear 40 = .ok (.iload_n 1, 1) := by decide +kernel
theorem dX3_areTooNear_41 : decode cX3_areTooNear 41 = .ok (.iaload, 1) := by decide +kernel
theorem dX3_areTooNear_42 : decode cX3_areTooNear 42 = .ok (.aload_n 0, 1) := by decide +kernel
theorem dX3_areTooNear_43 : decode cX3_areTooNear 43 = .ok (.getfield 35, 3) := by decide +kernel
theorem dX3_areTooNear_46 : decode cX3_areTooNear 46 = .ok (.iload_n 2, 1) := by decide +kernel
theorem dX3_areTooNear_47 : decode cX3_areTooNear 47 = .ok (.iaload, 1) := by decide +kernel
theorem dX3_areTooNear_48 : decode cX3_areTooNear 48 = .ok (.isub, 1) := by decide +kernel
theorem dX3_areTooNear_49 : decode cX3_areTooNear 49 = .ok (.invokestatic 54, 3) := by decide +kernel
theorem dX3_areTooNear_52 : decode cX3_areTooNear 52 = .ok (.aload_n 0, 1) := by decide +kernel
theorem dX3_areTooNear_53 : decode cX3_areTooNear 53 = .ok (.getfield 22, 3) := by decide +kernel
theorem dX3_areTooNear_56 : decode cX3_areTooNear 56 = .ok (.if_icmp .gt 7, 3) := by decide +kernel
theorem dX3_areTooNear_59 : decode cX3_areTooNear 59 = .ok (.iconst 1, 1) := by decide +kernel
theorem dX3_areTooNear_60 : decode cX3_areTooNear 60 = .ok (.goto 4, 3) := by decide +kernel
theorem dX3_areTooNear_63 : decode cX3_areTooNear 63 = .ok (.iconst 0, 1) := by decide +kernel
theorem dX3_areTooNear_64 : decode cX3_areTooNear 64 = .ok (.ireturn, 1) := by decide +kernel
set_option maxRecDepth 20000 in
theorem ggX3_nearTo_X3_areTooNear : GoodIn wsX3_nearTo wsX3_areTooNear := goodIn_r _ [6, 7, 8, 9, 10, 11, 12, 13, 14, 15, 16, 5, 17, 18, 19, 20, 21, 22, 23, 24, 25, 26, 27, 28, 29] (by decide +kernel) (by decide +kernel)
set_option maxRecDepth 20000 in
theorem gX3_nearTo_X3_areTooNear : GoodIn wsX3_nearTo (wsV RX3 60 RX3 yX3_areTooNear wsX3_areTooNear) := goodIn_app (goodIn_of _ (by decide +kernel)) ggX3_nearTo_X3_areTooNear
theorem dX3_nearTo_0 : decode cX3_nearTo 0 = .ok (.iconst 0, 1) := by decide +kernel
theorem dX3_nearTo_1 : decode cX3_nearTo 1 = .ok (.istore_n 2, 1) := by decide +kernel
theorem dX3_nearTo_2 : decode cX3_nearTo 2 = .ok (.iconst 0, 1) := by decide +kernel
theorem dX3_nearTo_3 : decode cX3_nearTo 3 = .ok (.istore_n 3, 1) := by decide +kernel
theorem dX3_nearTo_4 : decode cX3_nearTo 4 = .ok (.iload_n 3, 1) := by decide +kernel
theorem dX3_nearTo_5 : decode cX3_nearTo 5 = .ok (.aload_n 0, 1) := by decide +kernel
theorem dX3_nearTo_6 : decode cX3_nearTo 6 = .ok (.getfield 15, 3) := by decide +kernel
theorem dX3_nearTo_9 : decode cX3_nearTo 9 = .ok (.if_icmp .ge 29, 3) := by decide +kernel
theorem dX3_nearTo_12 : decode cX3_nearTo 12 = .ok (.iload_n 3, 1) := by decide +kernel
theorem dX3_nearTo_13 : decode cX3_nearTo 13 = .ok (.iload_n 1, 1) := by decide +kernel
theorem dX3_nearTo_14 : decode cX3_nearTo 14 = .ok (.if_icmp .eq 18, 3) := by decide +kernel
theorem dX3_nearTo_17 : decode cX3_nearTo 17 = .ok (.aload_n 0, 1) := by decide +kernel
theorem dX3_nearTo_18 : decode cX3_nearTo 18 = .ok (.iload_n 3, 1) := by decide +kernel
theorem dX3_nearTo_19 : decode cX3_nearTo 19 = .ok (.iload_n 1, 1) := by decide +kernel
theorem dX3_nearTo_20 : decode cX3_nearTo 20 = .ok (.invokevirtual 60, 3) := by decide +kernel
theorem dX3_nearTo_23 : decode cX3_nearTo 23 = .ok (.ifCond .eq 9, 3) := by decide +kernel
theorem dX3_nearTo_26 : decode cX3_nearTo 26 = .ok (.iload_n 2, 1) := by decide +kernel
theorem dX3_nearTo_27 : decode cX3_nearTo 27 = .ok (.iconst 1, 1) := by decide +kernel
theorem dX3_nearTo_28 : decode cX3_nearTo 28 = .ok (.iload_n 3, 1) := by decide +kernel
theorem dX3_nearTo_29 : decode cX3_nearTo 29 = .ok (.ishl, 1) := by decide +kernel
theorem dX3_nearTo_30 : decode cX3_nearTo 30 = .ok (.ior, 1) := by decide +kernel
theorem dX3_nearTo_31 : decode cX3_nearTo 31 = .ok (.istore_n 2, 1) := by decide +kernel
theorem dX3_nearTo_32 : decode cX3_nearTo 32 = .ok (.iinc 3 1, 3) := by decide +kernel
theorem dX3_nearTo_35 : decode cX3_nearTo 35 = .ok (.goto (-31), 3) := by decide +kernel
theorem dX3_nearTo_38 : decode cX3_nearTo 38 = .ok (.iload_n 2, 1) := by decide +kernel
theorem dX3_nearTo_39 : decode cX3_nearTo 39 = .ok (.ireturn, 1) := by decide +kernel
set_option maxRecDepth 20000 in
theorem ggX3_firstTooNear_X3_areTooNear : GoodIn wsX3_firstTooNear wsX3_areTooNear := goodIn_r _ [7, 8, 9, 10, 11, 12, 13, 14, 15, 16, 17, 6, 18, 19, 20, 21, 22, 23, 24, 25, 26, 27, 28, 29, 30] (by decide +kernel) (by decide +kernel)
set_option maxRecDepth 20000 in
theorem gX3_firstTooNear_X3_areTooNear : GoodIn wsX3_firstTooNear (wsV RX3 60 RX3 yX3_areTooNear wsX3_areTooNear) := goodIn_app (goodIn_of _ (by decide +kernel)) ggX3_firstTooNear_X3_areTooNear
theorem dX3_firstTooNear_0 : decode cX3_firstTooNear 0 = .ok (.iconst 0, 1) := by decide +kernel
theorem dX3_firstTooNear_1 : decode cX3_firstTooNear 1 = .ok (.istore_n 1, 1) := by decide +kernel
theorem dX3_firstTooNear_2 : decode cX3_firstTooNear 2 = .ok (.iload_n 1, 1) := by decide +kernel
theorem dX3_firstTooNear_3 : decode cX3_firstTooNear 3 = .ok (.aload_n 0, 1) := by decide +kernel
theorem dX3_firstTooNear_4 : decode cX3_firstTooNear 4 = .ok (.getfield 15, 3) := by decide +kernel
theorem dX3_firstTooNear_7 : decode cX3_firstTooNear 7 = .ok (.if_icmp .ge 43, 3) := by decide +kernel
theorem dX3_firstTooNear_10 : decode cX3_firstTooNear 10 = .ok (.iload_n 1, 1) := by decide +kernel
theorem dX3_firstTooNear_11 : decode cX3_firstTooNear 11 = .ok (.iconst 1, 1) := by decide +kernel
theorem dX3_firstTooNear_12 : decode cX3_firstTooNear 12 = .ok (.iadd, 1) := by decide +kernel
theorem dX3_firstTooNear_13 : decode cX3_firstTooNear 13 = .ok (.istore_n 2, 1) := by decide +kernel
theorem dX3_firstTooNear_14 : decode cX3_firstTooNear 14 = .ok (.iload_n 2, 1) := by decide +kernel
theorem dX3_firstTooNear_15 : decode cX3_firstTooNear 15 = .ok (.aload_n 0, 1) := by decide +kernel
theorem dX3_firstTooNear_16 : decode cX3_firstTooNear 16 = .ok (.getfield 15, 3) := by decide +kernel
theorem dX3_firstTooNear_19 : decode cX3_firstTooNear 19 = .ok (.if_icmp .ge 25, 3) := by decide +kernel
theorem dX3_firstTooNear_22 : decode cX3_firstTooNear 22 = .ok (.aload_n 0, 1) := by decide +kernel
theorem dX3_firstTooNear_23 : decode cX3_firstTooNear 23 = .ok (.iload_n 1, 1) := by decide +kernel
theorem dX3_firstTooNear_24 : decode cX3_firstTooNear 24 = .ok (.iload_n 2, 1) := by decide +kernel
theorem dX3_firstTooNear_25 : decode cX3_firstTooNear 25 = .ok (.invokevirtual 60, 3) := by decide +kernel
theorem dX3_firstTooNear_28 : decode cX3_firstTooNear 28 = .ok (.ifCond .eq 10, 3) := by decide +kernel
theorem dX3_firstTooNear_31 : decode cX3_firstTooNear 31 = .ok (.bipush 10, 2) := by decide +kernel
theorem dX3_firstTooNear_33 : decode cX3_firstTooNear 33 = .ok (.iload_n 1, 1) := by decide +kernel
theorem dX3_firstTooNear_34 : decode cX3_firstTooNear 34 = .ok (.imul, 1) := by decide +kernel
theorem dX3_firstTooNear_35 : decode cX3_firstTooNear 35 = .ok (.iload_n 2, 1) := by decide +kernel
theorem dX3_firstTooNear_36 : decode cX3_firstTooNear 36 = .ok (.iadd, 1) := by decide +kernel
theorem dX3_firstTooNear_37 : decode cX3_firstTooNear 37 = .ok (.ireturn, 1) := by decide +kernel
theorem dX3_firstTooNear_38 : decode cX3_firstTooNear 38 = .ok (.iinc 2 1, 3) := by decide +kernel
theorem dX3_firstTooNear_41 : decode cX3_firstTooNear 41 = .ok (.goto (-27), 3) := by decide +kernel
theorem dX3_firstTooNear_44 : decode cX3_firstTooNear 44 = .ok (.iinc 1 1, 3) := by decide +kernel
theorem dX3_firstTooNear_47 : decode cX3_firstTooNear 47 = .ok (.goto (-45), 3) := by decide +kernel
theorem dX3_firstTooNear_50 : decode cX3_firstTooNear 50 = .ok (.ldc 64, 2) := by decide +kernel
theorem dX3_firstTooNear_52 : decode cX3_firstTooNear 52 = .ok (.ireturn, 1) := by decide +kernel
set_option maxRecDepth 20000 in
theorem ggX3_riseOf_X3_isUp : GoodIn wsX3_riseOf wsX3_isUp := goodIn_r _ [12, 2, 24, 25, 26, 27, 28, 29, 30, 31, 32, 33, 34, 35] (by decide +kernel) (by decide +kernel)
set_option maxRecDepth 20000 in
theorem gX3_riseOf_X3_isUp : GoodIn wsX3_riseOf (wsV RX3 50 RX3 yX3_isUp wsX3_isUp) := goodIn_app (goodIn_of _ (by decide +kernel)) ggX3_riseOf_X3_isUp
set_option maxRecDepth 20000 in
theorem ggX3_riseOf_X3_ironRise : GoodIn wsX3_riseOf wsX3_ironRise := goodIn_r _ [16, 17, 7, 24, 25, 26, 27, 28, 29, 30, 31, 32, 33, 34, 35] (by decide +kernel) (by decide +kernel)
set_option maxRecDepth 20000 in
theorem gX3_riseOf_X3_ironRise : GoodIn wsX3_riseOf (wsV RX3 65 RX3 yX3_ironRise wsX3_ironRise) := goodIn_app (goodIn_of _ (by decide +kernel)) ggX3_riseOf_X3_ironRise
set_option maxRecDepth 20000 in
theorem ggX3_riseOf_X3_isCovered : GoodIn wsX3_riseOf wsX3_isCovered := goodIn_r _ [21, 22, 2, 23, 24, 25, 26, 27, 28, 29, 30, 31, 32, 33, 34, 35] (by decide +kernel) (by decide +kernel)
set_option maxRecDepth 20000 in
theorem gX3_riseOf_X3_isCovered : GoodIn wsX3_riseOf (wsV RX3 68 RX3 yX3_isCovered wsX3_isCovered) := goodIn_app (goodIn_of _ (by decide +kernel)) ggX3_riseOf_X3_isCovered
theorem dX3_riseOf_0 : decode cX3_riseOf 0 = .ok (.aload_n 0, 1) := by decide +kernel
theorem dX3_riseOf_1 : decode cX3_riseOf 1 = .ok (.iload_n 1, 1) := by decide +kernel
theorem dX3_riseOf_2 : decode cX3_riseOf 2 = .ok (.invokevirtual 50, 3) := by decide +kernel
theorem dX3_riseOf_5 : decode cX3_riseOf 5 = .ok (.ifCond .eq 5, 3) := by decide +kernel
theorem dX3_riseOf_8 : decode cX3_riseOf 8 = .ok (.iconst 0, 1) := by decide +kernel
theorem dX3_riseOf_9 : decode cX3_riseOf 9 = .ok (.ireturn, 1) := by decide +kernel
theorem dX3_riseOf_10 : decode cX3_riseOf 10 = .ok (.aload_n 0, 1) := by decide +kernel
theorem dX3_riseOf_11 : decode cX3_riseOf 11 = .ok (.getfield 31, 3) := by decide +kernel
theorem dX3_riseOf_14 : decode cX3_riseOf 14 = .ok (.iload_n 1, 1) := by decide +kernel
theorem dX3_riseOf_15 : decode cX3_riseOf 15 = .ok (.iaload, 1) := by decide +kernel
theorem dX3_riseOf_16 : decode cX3_riseOf 16 = .ok (.tableswitch 97 1 5 #[36, 42, 64, 97, 81], 36) := by decide +kernel
theorem dX3_riseOf_52 : decode cX3_riseOf 52 = .ok (.aload_n 0, 1) := by decide +kernel
theorem dX3_riseOf_53 : decode cX3_riseOf 53 = .ok (.iload_n 1, 1) := by decide +kernel
theorem dX3_riseOf_54 : decode cX3_riseOf 54 = .ok (.invokevirtual 65, 3) := by decide +kernel
theorem dX3_riseOf_57 : decode cX3_riseOf 57 = .ok (.ireturn, 1) := by decide +kernel
theorem dX3_riseOf_58 : decode cX3_riseOf 58 = .ok (.aload_n 0, 1) := by decide +kernel
theorem dX3_riseOf_59 : decode cX3_riseOf 59 = .ok (.iload_n 1, 1) := by decide +kernel
theorem dX3_riseOf_60 : decode cX3_riseOf 60 = .ok (.invokevirtual 65, 3) := by decide +kernel
theorem dX3_riseOf_63 : decode cX3_riseOf 63 = .ok (.ifCond .eq 11, 3) := by decide +kernel
theorem dX3_riseOf_66 : decode cX3_riseOf 66 = .ok (.aload_n 0, 1) := by decide +kernel
theorem dX3_riseOf_67 : decode cX3_riseOf 67 = .ok (.iload_n 1, 1) := by decide +kernel
theorem dX3_riseOf_68 : decode cX3_riseOf 68 = .ok (.invokevirtual 68, 3) := by decide +kernel
theorem dX3_riseOf_71 : decode cX3_riseOf 71 = .ok (.ifCond .eq 7, 3) := by decide +kernel
theorem dX3_riseOf_74 : decode cX3_riseOf 74 = .ok (.iconst 0, 1) := by decide +kernel
theorem dX3_riseOf_75 : decode cX3_riseOf 75 = .ok (.goto 4, 3) := by decide +kernel
theorem dX3_riseOf_78 : decode cX3_riseOf 78 = .ok (.iconst 1, 1) := by decide +kernel
theorem dX3_riseOf_79 : decode cX3_riseOf 79 = .ok (.ireturn, 1) := by decide +kernel
theorem dX3_riseOf_80 : decode cX3_riseOf 80 = .ok (.iconst 2, 1) := by decide +kernel
theorem dX3_riseOf_81 : decode cX3_riseOf 81 = .ok (.aload_n 0, 1) := by decide +kernel
theorem dX3_riseOf_82 : decode cX3_riseOf 82 = .ok (.iload_n 1, 1) := by decide +kernel
theorem dX3_riseOf_83 : decode cX3_riseOf 83 = .ok (.invokevirtual 65, 3) := by decide +kernel
theorem dX3_riseOf_86 : decode cX3_riseOf 86 = .ok (.imul, 1) := by decide +kernel
theorem dX3_riseOf_87 : decode cX3_riseOf 87 = .ok (.aload_n 0, 1) := by decide +kernel
theorem dX3_riseOf_88 : decode cX3_riseOf 88 = .ok (.getfield 35, 3) := by decide +kernel
theorem dX3_riseOf_91 : decode cX3_riseOf 91 = .ok (.iload_n 1, 1) := by decide +kernel
theorem dX3_riseOf_92 : decode cX3_riseOf 92 = .ok (.iaload, 1) := by decide +kernel
theorem dX3_riseOf_93 : decode cX3_riseOf 93 = .ok (.invokestatic 71, 3) := by decide +kernel
theorem dX3_riseOf_96 : decode cX3_riseOf 96 = .ok (.ireturn, 1) := by decide +kernel
theorem dX3_riseOf_97 : decode cX3_riseOf 97 = .ok (.aload_n 0, 1) := by decide +kernel
theorem dX3_riseOf_98 : decode cX3_riseOf 98 = .ok (.getfield 25, 3) := by decide +kernel
theorem dX3_riseOf_101 : decode cX3_riseOf 101 = .ok (.iconst 5, 1) := by decide +kernel
theorem dX3_riseOf_102 : decode cX3_riseOf 102 = .ok (.irem, 1) := by decide +kernel
theorem dX3_riseOf_103 : decode cX3_riseOf 103 = .ok (.iconst 4, 1) := by decide +kernel
theorem dX3_riseOf_104 : decode cX3_riseOf 104 = .ok (.if_icmp .ne 7, 3) := by decide +kernel
theorem dX3_riseOf_107 : decode cX3_riseOf 107 = .ok (.iconst 1, 1) := by decide +kernel
theorem dX3_riseOf_108 : decode cX3_riseOf 108 = .ok (.goto 4, 3) := by decide +kernel
theorem dX3_riseOf_111 : decode cX3_riseOf 111 = .ok (.iconst 0, 1) := by decide +kernel
theorem dX3_riseOf_112 : decode cX3_riseOf 112 = .ok (.ireturn, 1) := by decide +kernel
theorem dX3_riseOf_113 : decode cX3_riseOf 113 = .ok (.iconst 0, 1) := by decide +kernel
theorem dX3_riseOf_114 : decode cX3_riseOf 114 = .ok (.ireturn, 1) := by decide +kernel
theorem dX3_ironRise_0 : decode cX3_ironRise 0 = .ok (.aload_n 0, 1) := by decide +kernel
theorem dX3_ironRise_1 : decode cX3_ironRise 1 = .ok (.getfield 41, 3) := by decide +kernel
theorem dX3_ironRise_4 : decode cX3_ironRise 4 = .ok (.iload_n 1, 1) := by decide +kernel
theorem dX3_ironRise_5 : decode cX3_ironRise 5 = .ok (.iaload, 1) := by decide +kernel
theorem dX3_ironRise_6 : decode cX3_ironRise 6 = .ok (.ifCond .le 21, 3) := by decide +kernel
theorem dX3_ironRise_9 : decode cX3_ironRise 9 = .ok (.aload_n 0, 1) := by decide +kernel
theorem dX3_ironRise_10 : decode cX3_ironRise 10 = .ok (.getfield 25, 3) := by decide +kernel
theorem dX3_ironRise_13 : decode cX3_ironRise 13 = .ok (.aload_n 0, 1) := by decide +kernel
theorem dX3_ironRise_14 : decode cX3_ironRise 14 = .ok (.getfield 41, 3) := by decide +kernel
theorem dX3_ironRise_17 : decode cX3_ironRise 17 = .ok (.iload_n 1, 1) := by decide +kernel
theorem dX3_ironRise_18 : decode cX3_ironRise 18 = .ok (.iaload, 1) := by decide +kernel
theorem dX3_ironRise_19 : decode cX3_ironRise 19 = .ok (.irem, 1) := by decide +kernel
theorem dX3_ironRise_20 : decode cX3_ironRise 20 = .ok (.ifCond .ne 7, 3) := by decide +kernel
theorem dX3_ironRise_23 : decode cX3_ironRise 23 = .ok (.iconst 1, 1) := by decide +kernel
theorem dX3_ironRise_24 : decode cX3_ironRise 24 = .ok (.goto 4, 3) := by decide +kernel
theorem dX3_ironRise_27 : decode cX3_ironRise 27 = .ok (.iconst 0, 1) := by decide +kernel
theorem dX3_ironRise_28 : decode cX3_ironRise 28 = .ok (.ireturn, 1) := by decide +kernel
theorem dX3_isCovered_0 : decode cX3_isCovered 0 = .ok (.iconst 0, 1) := by decide +kernel
theorem dX3_isCovered_1 : decode cX3_isCovered 1 = .ok (.istore_n 2, 1) := by decide +kernel
theorem dX3_isCovered_2 : decode cX3_isCovered 2 = .ok (.iload_n 2, 1) := by decide +kernel
theorem dX3_isCovered_3 : decode cX3_isCovered 3 = .ok (.aload_n 0, 1) := by decide +kernel
theorem dX3_isCovered_4 : decode cX3_isCovered 4 = .ok (.getfield 15, 3) := by decide +kernel
theorem dX3_isCovered_7 : decode cX3_isCovered 7 = .ok (.if_icmp .ge 50, 3) := by decide +kernel
theorem dX3_isCovered_10 : decode cX3_isCovered 10 = .ok (.aload_n 0, 1) := by decide +kernel
theorem dX3_isCovered_11 : decode cX3_isCovered 11 = .ok (.getfield 35, 3) := by decide +kernel
theorem dX3_isCovered_14 : decode cX3_isCovered 14 = .ok (.iload_n 2, 1) := by decide +kernel
theorem dX3_isCovered_15 : decode cX3_isCovered 15 = .ok (.iaload, 1) := by decide +kernel
theorem dX3_isCovered_16 : decode cX3_isCovered 16 = .ok (.ifCond .le 35, 3) := by decide +kernel
theorem dX3_isCovered_19 : decode cX3_isCovered 19 = .ok (.aload_n 0, 1) := by decide +kernel
theorem dX3_isCovered_20 : decode cX3_isCovered 20 = .ok (.getfield 38, 3) := by decide +kernel
theorem dX3_isCovered_23 : decode cX3_isCovered 23 = .ok (.iload_n 2, 1) := by decide +kernel
theorem dX3_isCovered_24 : decode cX3_isCovered 24 = .ok (.iaload, 1) := by decide +kernel
theorem dX3_isCovered_25 : decode cX3_isCovered 25 = .ok (.aload_n 0, 1) := by decide +kernel
theorem dX3_isCovered_26 : decode cX3_isCovered 26 = .ok (.getfield 38, 3) := by decide +kernel
theorem dX3_isCovered_29 : decode cX3_isCovered 29 = .ok (.iload_n 1, 1) := by decide +kernel
theorem dX3_isCovered_30 : decode cX3_isCovered 30 = .ok (.iaload, 1) := by decide +kernel
theorem dX3_isCovered_31 : decode cX3_isCovered 31 = .ok (.if_icmp .ne 20, 3) := by decide +kernel
theorem dX3_isCovered_34 : decode cX3_isCovered 34 = .ok (.aload_n 0, 1) := by decide +kernel
theorem dX3_isCovered_35 : decode cX3_isCovered 35 = .ok (.getfield 35, 3) := by decide +kernel
theorem dX3_isCovered_38 : decode cX3_isCovered 38 = .ok (.iload_n 2, 1) := by decide +kernel
theorem dX3_isCovered_39 : decode cX3_isCovered 39 = .ok (.iaload, 1) := by decide +kernel
theorem dX3_isCovered_40 : decode cX3_isCovered 40 = .ok (.aload_n 0, 1) := by decide +kernel
theorem dX3_isCovered_41 : decode cX3_isCovered 41 = .ok (.getfield 35, 3) := by decide +kernel
theorem dX3_isCovered_44 : decode cX3_isCovered 44 = .ok (.iload_n 1, 1) := by decide +kernel
theorem dX3_isCovered_45 : decode cX3_isCovered 45 = .ok (.iaload, 1) := by decide +kernel
theorem dX3_isCovered_46 : decode cX3_isCovered 46 = .ok (.if_icmp .ge 5, 3) := by decide +kernel
theorem dX3_isCovered_49 : decode cX3_isCovered 49 = .ok (.iconst 1, 1) := by decide +kernel
theorem dX3_isCovered_50 : decode cX3_isCovered 50 = .ok (.ireturn, 1) := by decide +kernel
theorem dX3_isCovered_51 : decode cX3_isCovered 51 = .ok (.iinc 2 1, 3) := by decide +kernel
theorem dX3_isCovered_54 : decode cX3_isCovered 54 = .ok (.goto (-52), 3) := by decide +kernel
theorem dX3_isCovered_57 : decode cX3_isCovered 57 = .ok (.iconst 0, 1) := by decide +kernel
theorem dX3_isCovered_58 : decode cX3_isCovered 58 = .ok (.ireturn, 1) := by decide +kernel
set_option maxRecDepth 20000 in
theorem ggX3_passYear_X3_riseOf : GoodIn wsX3_passYear wsX3_riseOf := goodIn_r _ [9, 10, 3, 11, 12, 13, 14, 4, 15, 16, 17, 8, 18, 19, 20, 21, 22, 23, 24, 25, 26, 27, 1, 28, 29, 30, 31, 32, 33, 34, 35, 36, 37, 38, 39, 40] (by decide +kernel) (by decide +kernel)
set_option maxRecDepth 20000 in
theorem gX3_passYear_X3_riseOf : GoodIn wsX3_passYear (wsV RX3 75 RX3 yX3_riseOf wsX3_riseOf) := goodIn_app (goodIn_of _ (by decide +kernel)) ggX3_passYear_X3_riseOf
theorem dX3_passYear_0 : decode cX3_passYear 0 = .ok (.iconst 0, 1) := by decide +kernel
theorem dX3_passYear_1 : decode cX3_passYear 1 = .ok (.istore_n 1, 1) := by decide +kernel
theorem dX3_passYear_2 : decode cX3_passYear 2 = .ok (.iconst 0, 1) := by decide +kernel
theorem dX3_passYear_3 : decode cX3_passYear 3 = .ok (.istore_n 2, 1) := by decide +kernel
theorem dX3_passYear_4 : decode cX3_passYear 4 = .ok (.iload_n 2, 1) := by decide +kernel
theorem dX3_passYear_5 : decode cX3_passYear 5 = .ok (.aload_n 0, 1) := by decide +kernel
theorem dX3_passYear_6 : decode cX3_passYear 6 = .ok (.getfield 15, 3) := by decide +kernel
theorem dX3_passYear_9 : decode cX3_passYear 9 = .ok (.if_icmp .ge 20, 3) := by decide +kernel
theorem dX3_passYear_12 : decode cX3_passYear 12 = .ok (.aload_n 0, 1) := by decide +kernel
theorem dX3_passYear_13 : decode cX3_passYear 13 = .ok (.getfield 47, 3) := by decide +kernel
theorem dX3_passYear_16 : decode cX3_passYear 16 = .ok (.iload_n 2, 1) := by decide +kernel
theorem dX3_passYear_17 : decode cX3_passYear 17 = .ok (.aload_n 0, 1) := by decide +kernel
theorem dX3_passYear_18 : decode cX3_passYear 18 = .ok (.iload_n 2, 1) := by decide +kernel
theorem dX3_passYear_19 : decode cX3_passYear 19 = .ok (.invokevirtual 75, 3) := by decide +kernel
theorem dX3_passYear_22 : decode cX3_passYear 22 = .ok (.iastore, 1) := by decide +kernel
theorem dX3_passYear_23 : decode cX3_passYear 23 = .ok (.iinc 2 1, 3) := by decide +kernel
theorem dX3_passYear_26 : decode cX3_passYear 26 = .ok (.goto (-22), 3) := by decide +kernel
theorem dX3_passYear_29 : decode cX3_passYear 29 = .ok (.iconst 0, 1) := by decide +kernel
theorem dX3_passYear_30 : decode cX3_passYear 30 = .ok (.istore_n 2, 1) := by decide +kernel
theorem dX3_passYear_31 : decode cX3_passYear 31 = .ok (.iload_n 2, 1) := by decide +kernel
theorem dX3_passYear_32 : decode cX3_passYear 32 = .ok (.aload_n 0, 1) := by decide +kernel
theorem dX3_passYear_33 : decode cX3_passYear 33 = .ok (.getfield 15, 3) := by decide +kernel
theorem dX3_passYear_36 : decode cX3_passYear 36 = .ok (.if_icmp .ge 35, 3) := by decide +kernel
theorem dX3_passYear_39 : decode cX3_passYear 39 = .ok (.aload_n 0, 1) := by decide +kernel
theorem dX3_passYear_40 : decode cX3_passYear 40 = .ok (.getfield 47, 3) := by decide +kernel
theorem dX3_passYear_43 : decode cX3_passYear 43 = .ok (.iload_n 2, 1) := by decide +kernel
theorem dX3_passYear_44 : decode cX3_passYear 44 = .ok (.iaload, 1) := by decide +kernel
theorem dX3_passYear_45 : decode cX3_passYear 45 = .ok (.ifCond .le 20, 3) := by decide +kernel
theorem dX3_passYear_48 : decode cX3_passYear 48 = .ok (.aload_n 0, 1) := by decide +kernel
theorem dX3_passYear_49 : decode cX3_passYear 49 = .ok (.getfield 35, 3) := by decide +kernel
theorem dX3_passYear_52 : decode cX3_passYear 52 = .ok (.iload_n 2, 1) := by decide +kernel
theorem dX3_passYear_53 : decode cX3_passYear 53 = .ok (.dup2, 1) := by decide +kernel
theorem dX3_passYear_54 : decode cX3_passYear 54 = .ok (.iaload, 1) := by decide +kernel
theorem dX3_passYear_55 : decode cX3_passYear 55 = .ok (.aload_n 0, 1) := by decide +kernel
theorem dX3_passYear_56 : decode cX3_passYear 56 = .ok (.getfield 47, 3) := by decide +kernel
theorem dX3_passYear_59 : decode cX3_passYear 59 = .ok (.iload_n 2, 1) := by decide +kernel
theorem dX3_passYear_60 : decode cX3_passYear 60 = .ok (.iaload, 1) := by decide +kernel
theorem dX3_passYear_61 : decode cX3_passYear 61 = .ok (.isub, 1) := by decide +kernel
theorem dX3_passYear_62 : decode cX3_passYear 62 = .ok (.iastore, 1) := by decide +kernel
theorem dX3_passYear_63 : decode cX3_passYear 63 = .ok (.iconst 1, 1) := by decide +kernel
theorem dX3_passYear_64 : decode cX3_passYear 64 = .ok (.istore_n 1, 1) := by decide +kernel
theorem dX3_passYear_65 : decode cX3_passYear 65 = .ok (.iinc 2 1, 3) := by decide +kernel
theorem dX3_passYear_68 : decode cX3_passYear 68 = .ok (.goto (-37), 3) := by decide +kernel
theorem dX3_passYear_71 : decode cX3_passYear 71 = .ok (.aload_n 0, 1) := by decide +kernel
theorem dX3_passYear_72 : decode cX3_passYear 72 = .ok (.dup, 1) := by decide +kernel
theorem dX3_passYear_73 : decode cX3_passYear 73 = .ok (.getfield 25, 3) := by decide +kernel
theorem dX3_passYear_76 : decode cX3_passYear 76 = .ok (.iconst 1, 1) := by decide +kernel
theorem dX3_passYear_77 : decode cX3_passYear 77 = .ok (.iadd, 1) := by decide +kernel
theorem dX3_passYear_78 : decode cX3_passYear 78 = .ok (.putfield 25, 3) := by decide +kernel
theorem dX3_passYear_81 : decode cX3_passYear 81 = .ok (.iload_n 1, 1) := by decide +kernel
theorem dX3_passYear_82 : decode cX3_passYear 82 = .ok (.ireturn, 1) := by decide +kernel
theorem dX3_knownTo_0 : decode cX3_knownTo 0 = .ok (.iconst 0, 1) := by decide +kernel
theorem dX3_knownTo_1 : decode cX3_knownTo 1 = .ok (.istore_n 2, 1) := by decide +kernel
theorem dX3_knownTo_2 : decode cX3_knownTo 2 = .ok (.iconst 0, 1) := by decide +kernel
theorem dX3_knownTo_3 : decode cX3_knownTo 3 = .ok (.istore_n 3, 1) := by decide +kernel
theorem dX3_knownTo_4 : decode cX3_knownTo 4 = .ok (.iload_n 3, 1) := by decide +kernel
theorem dX3_knownTo_5 : decode cX3_knownTo 5 = .ok (.aload_n 0, 1) := by decide +kernel
theorem dX3_knownTo_6 : decode cX3_knownTo 6 = .ok (.getfield 15, 3) := by decide +kernel
theorem dX3_knownTo_9 : decode cX3_knownTo 9 = .ok (.if_icmp .ge 24, 3) := by decide +kernel
theorem dX3_knownTo_12 : decode cX3_knownTo 12 = .ok (.iload_n 2, 1) := by decide +kernel
theorem dX3_knownTo_13 : decode cX3_knownTo 13 = .ok (.aload_n 0, 1) := by decide +kernel
theorem dX3_knownTo_14 : decode cX3_knownTo 14 = .ok (.getfield 44, 3) := by decide +kernel
theorem dX3_knownTo_17 : decode cX3_knownTo 17 = .ok (.iload_n 3, 1) := by decide +kernel
theorem dX3_knownTo_18 : decode cX3_knownTo 18 = .ok (.iaload, 1) := by decide +kernel
theorem dX3_knownTo_19 : decode cX3_knownTo 19 = .ok (.iload_n 1, 1) := by decide +kernel
theorem dX3_knownTo_20 : decode cX3_knownTo 20 = .ok (.ishr, 1) := by decide +kernel
theorem dX3_knownTo_21 : decode cX3_knownTo 21 = .ok (.iconst 1, 1) := by decide +kernel
theorem dX3_knownTo_22 : decode cX3_knownTo 22 = .ok (.iand, 1) := by decide +kernel
theorem dX3_knownTo_23 : decode cX3_knownTo 23 = .ok (.iload_n 3, 1) := by decide +kernel
theorem dX3_knownTo_24 : decode cX3_knownTo 24 = .ok (.ishl, 1) := by decide +kernel
theorem dX3_knownTo_25 : decode cX3_knownTo 25 = .ok (.ior, 1) := by decide +kernel
theorem dX3_knownTo_26 : decode cX3_knownTo 26 = .ok (.istore_n 2, 1) := by decide +kernel
theorem dX3_knownTo_27 : decode cX3_knownTo 27 = .ok (.iinc 3 1, 3) := by decide +kernel
theorem dX3_knownTo_30 : decode cX3_knownTo 30 = .ok (.goto (-26), 3) := by decide +kernel
theorem dX3_knownTo_33 : decode cX3_knownTo 33 = .ok (.iload_n 2, 1) := by decide +kernel
theorem dX3_knownTo_34 : decode cX3_knownTo 34 = .ok (.ireturn, 1) := by decide +kernel
set_option maxRecDepth 20000 in
theorem ggX3_fewestWhoKnowAll_X3_allKnownTo : GoodIn wsX3_fewestWhoKnowAll wsX3_allKnownTo := goodIn_r _ [7, 8, 9, 17, 18, 19, 20, 21, 22, 23, 24, 25, 26, 27, 28] (by decide +kernel) (by decide +kernel)
set_option maxRecDepth 20000 in
theorem gX3_fewestWhoKnowAll_X3_allKnownTo : GoodIn wsX3_fewestWhoKnowAll (wsV RX3 78 RX3 yX3_allKnownTo wsX3_allKnownTo) := goodIn_app (goodIn_of _ (by decide +kernel)) ggX3_fewestWhoKnowAll_X3_allKnownTo
set_option maxRecDepth 20000 in
theorem ggX3_fewestWhoKnowAll_J6_bitCount_0f7a4 : GoodIn wsX3_fewestWhoKnowAll wsJ6_bitCount_0f7a4 := goodIn_r _ [13, 14, 15, 16] (by decide +kernel) (by decide +kernel)
set_option maxRecDepth 20000 in
theorem gX3_fewestWhoKnowAll_J6_bitCount_0f7a4 : GoodIn wsX3_fewestWhoKnowAll (va_wsS RX3 81 yJ6_bitCount_0f7a4 wsJ6_bitCount_0f7a4) := goodIn_app (goodIn_of _ (by decide +kernel)) ggX3_fewestWhoKnowAll_J6_bitCount_0f7a4
theorem dX3_fewestWhoKnowAll_0 : decode cX3_fewestWhoKnowAll 0 = .ok (.ldc 64, 2) := by decide +kernel
theorem dX3_fewestWhoKnowAll_2 : decode cX3_fewestWhoKnowAll 2 = .ok (.istore_n 1, 1) := by decide +kernel
theorem dX3_fewestWhoKnowAll_3 : decode cX3_fewestWhoKnowAll 3 = .ok (.iconst 0, 1) := by decide +kernel
theorem dX3_fewestWhoKnowAll_4 : decode cX3_fewestWhoKnowAll 4 = .ok (.istore_n 2, 1) := by decide +kernel
theorem dX3_fewestWhoKnowAll_5 : decode cX3_fewestWhoKnowAll 5 = .ok (.iload_n 2, 1) := by decide +kernel
theorem dX3_fewestWhoKnowAll_6 : decode cX3_fewestWhoKnowAll 6 = .ok (.iconst 1, 1) := by decide +kernel
theorem dX3_fewestWhoKnowAll_7 : decode cX3_fewestWhoKnowAll 7 = .ok (.aload_n 0, 1) := by decide +kernel
theorem dX3_fewestWhoKnowAll_8 : decode cX3_fewestWhoKnowAll 8 = .ok (.getfield 19, 3) := by decide +kernel
theorem dX3_fewestWhoKnowAll_11 : decode cX3_fewestWhoKnowAll 11 = .ok (.ishl, 1) := by decide +kernel
theorem dX3_fewestWhoKnowAll_12 : decode cX3_fewestWhoKnowAll 12 = .ok (.if_icmp .ge 36, 3) := by decide +kernel
theorem dX3_fewestWhoKnowAll_15 : decode cX3_fewestWhoKnowAll 15 = .ok (.aload_n 0, 1) := by decide +kernel
theorem dX3_fewestWhoKnowAll_16 : decode cX3_fewestWhoKnowAll 16 = .ok (.iload_n 2, 1) := by decide +kernel
theorem dX3_fewestWhoKnowAll_17 : decode cX3_fewestWhoKnowAll 17 = .ok (.invokevirtual 78, 3) := by decide +kernel
theorem dX3_fewestWhoKnowAll_20 : decode cX3_fewestWhoKnowAll 20 = .ok (.ifCond .eq 22, 3) := by decide +kernel
theorem dX3_fewestWhoKnowAll_23 : decode cX3_fewestWhoKnowAll 23 = .ok (.iload_n 1, 1) := by decide +kernel
theorem dX3_fewestWhoKnowAll_24 : decode cX3_fewestWhoKnowAll 24 = .ok (.ldc 64, 2) := by decide +kernel
theorem dX3_fewestWhoKnowAll_26 : decode cX3_fewestWhoKnowAll 26 = .ok (.if_icmp .eq 14, 3) := by decide +kernel
theorem dX3_fewestWhoKnowAll_29 : decode cX3_fewestWhoKnowAll 29 = .ok (.iload_n 2, 1) := by decide +kernel
theorem dX3_fewestWhoKnowAll_30 : decode cX3_fewestWhoKnowAll 30 = .ok (.invokestatic 81, 3) := by decide +kernel
theorem dX3_fewestWhoKnowAll_33 : decode cX3_fewestWhoKnowAll 33 = .ok (.iload_n 1, 1) := by decide +kernel
theorem dX3_fewestWhoKnowAll_34 : decode cX3_fewestWhoKnowAll 34 = .ok (.invokestatic 81, 3) := by decide +kernel
theorem dX3_fewestWhoKnowAll_37 : decode cX3_fewestWhoKnowAll 37 = .ok (.if_icmp .ge 5, 3) := by decide +kernel
theorem dX3_fewestWhoKnowAll_40 : decode cX3_fewestWhoKnowAll 40 = .ok (.iload_n 2, 1) := by decide +kernel
theorem dX3_fewestWhoKnowAll_41 : decode cX3_fewestWhoKnowAll 41 = .ok (.istore_n 1, 1) := by decide +kernel
