abbrev m_X10_in : Mt := (RX10, cX10_in, 6, (some .boolean), 1, "in")
set_option maxRecDepth 20000 in
theorem cd_X10_in : Cond.code yX10_in cX10_in 6 (some .boolean) ∈ TB := TB_in (List.mem_of_getElem? (i := 955) rfl) rfl
theorem sx_X10_in : Cond.static yX10_in ∈ TB := TB_in (List.mem_of_getElem? (i := 954) (by decide +kernel)) rfl
abbrev m_X10_met : Mt := (RX10, cX10_met, 2, (some .int), 1, "met")
set_option maxRecDepth 20000 in
theorem cd_X10_met : Cond.code yX10_met cX10_met 2 (some .int) ∈ TB := TB_in (List.mem_of_getElem? (i := 1140) rfl) rfl
theorem im_X10_met : Cond.instanceMethod yX10_met ∈ TB := TB_in (List.mem_of_getElem? (i := 1139) (by decide +kernel)) rfl
theorem se_X10_met : Cond.selects RX10 yX10_met yX10_met ∈ TB := TB_in (List.mem_of_getElem? (i := 35) (by decide +kernel)) rfl
abbrev m_X10_finding : Mt := (RX10, cX10_finding, 1, (some .int), 1, "finding")
set_option maxRecDepth 20000 in
theorem cd_X10_finding : Cond.code yX10_finding cX10_finding 1 (some .int) ∈ TB := TB_in (List.mem_of_getElem? (i := 1120) rfl) rfl
theorem im_X10_finding : Cond.instanceMethod yX10_finding ∈ TB := TB_in (List.mem_of_getElem? (i := 1118) (by decide +kernel)) rfl
theorem se_X10_finding : Cond.selects RX10 yX10_finding yX10_finding ∈ TB := TB_in (List.mem_of_getElem? (i := 1119) (by decide +kernel)) rfl
abbrev m_X10_tell : Mt := (RX10, cX10_tell, 7, none, 1, "tell")
set_option maxRecDepth 20000 in
theorem cd_X10_tell : Cond.code yX10_tell cX10_tell 7 none ∈ TB := TB_in (List.mem_of_getElem? (i := 959) rfl) rfl
theorem im_X10_tell : Cond.instanceMethod yX10_tell ∈ TB := TB_in (List.mem_of_getElem? (i := 958) (by decide +kernel)) rfl
theorem se_X10_tell : Cond.selects RX10 yX10_tell yX10_tell ∈ TB := TB_in (List.mem_of_getElem? (i := 33) (by decide +kernel)) rfl
abbrev m_X10_kind : Mt := (RX10, cX10_kind, 8, (some .int), 2, "kind")
set_option maxRecDepth 20000 in
theorem cd_X10_kind : Cond.code yX10_kind cX10_kind 8 (some .int) ∈ TB := TB_in (List.mem_of_getElem? (i := 1124) rfl) rfl
theorem im_X10_kind : Cond.instanceMethod yX10_kind ∈ TB := TB_in (List.mem_of_getElem? (i := 1122) (by decide +kernel)) rfl
theorem se_X10_kind : Cond.selects RX10 yX10_kind yX10_kind ∈ TB := TB_in (List.mem_of_getElem? (i := 1123) (by decide +kernel)) rfl
abbrev m_X10_mayRaise : Mt := (RX10, cX10_mayRaise, 2, (some .boolean), 1, "mayRaise")
set_option maxRecDepth 20000 in
theorem cd_X10_mayRaise : Cond.code yX10_mayRaise cX10_mayRaise 2 (some .boolean) ∈ TB := TB_in (List.mem_of_getElem? (i := 1181) rfl) rfl
theorem im_X10_mayRaise : Cond.instanceMethod yX10_mayRaise ∈ TB := TB_in (List.mem_of_getElem? (i := 1180) (by decide +kernel)) rfl
theorem se_X10_mayRaise : Cond.selects RX10 yX10_mayRaise yX10_mayRaise ∈ TB := TB_in (List.mem_of_getElem? (i := 37) (by decide +kernel)) rfl
abbrev m_X10_isLine : Mt := (RX10, cX10_isLine, 2, (some .boolean), 2, "isLine")
set_option maxRecDepth 20000 in
theorem cd_X10_isLine : Cond.code yX10_isLine cX10_isLine 2 (some .boolean) ∈ TB := TB_in (List.mem_of_getElem? (i := 1135) rfl) rfl
theorem im_X10_isLine : Cond.instanceMethod yX10_isLine ∈ TB := TB_in (List.mem_of_getElem? (i := 1134) (by decide +kernel)) rfl
theorem se_X10_isLine : Cond.selects RX10 yX10_isLine yX10_isLine ∈ TB := TB_in (List.mem_of_getElem? (i := 34) (by decide +kernel)) rfl
abbrev m_X10_line : Mt := (RX10, cX10_line, 5, (some .int), 3, "line")
set_option maxRecDepth 20000 in
theorem cd_X10_line : Cond.code yX10_line cX10_line 5 (some .int) ∈ TB := TB_in (List.mem_of_getElem? (i := 1131) rfl) rfl
theorem im_X10_line : Cond.instanceMethod yX10_line ∈ TB := TB_in (List.mem_of_getElem? (i := 1129) (by decide +kernel)) rfl
theorem se_X10_line : Cond.selects RX10 yX10_line yX10_line ∈ TB := TB_in (List.mem_of_getElem? (i := 1130) (by decide +kernel)) rfl
abbrev m_X10_lose : Mt := (RX10, cX10_lose, 2, (some .int), 3, "lose")
set_option maxRecDepth 20000 in
theorem cd_X10_lose : Cond.code yX10_lose cX10_lose 2 (some .int) ∈ TB := TB_in (List.mem_of_getElem? (i := 1144) rfl) rfl
theorem im_X10_lose : Cond.instanceMethod yX10_lose ∈ TB := TB_in (List.mem_of_getElem? (i := 1142) (by decide +kernel)) rfl
theorem se_X10_lose : Cond.selects RX10 yX10_lose yX10_lose ∈ TB := TB_in (List.mem_of_getElem? (i := 1143) (by decide +kernel)) rfl
abbrev m_X10_lacks : Mt := (RX10, cX10_lacks, 4, (some .int), 2, "lacks")
set_option maxRecDepth 20000 in
theorem cd_X10_lacks : Cond.code yX10_lacks cX10_lacks 4 (some .int) ∈ TB := TB_in (List.mem_of_getElem? (i := 1152) rfl) rfl
theorem im_X10_lacks : Cond.instanceMethod yX10_lacks ∈ TB := TB_in (List.mem_of_getElem? (i := 1151) (by decide +kernel)) rfl
theorem se_X10_lacks : Cond.selects RX10 yX10_lacks yX10_lacks ∈ TB := TB_in (List.mem_of_getElem? (i := 36) (by decide +kernel)) rfl
abbrev m_X10_put : Mt := (RX10, cX10_put, 6, (some .int), 3, "put")
set_option maxRecDepth 20000 in
theorem cd_X10_put : Cond.code yX10_put cX10_put 6 (some .int) ∈ TB := TB_in (List.mem_of_getElem? (i := 1148) rfl) rfl
theorem im_X10_put : Cond.instanceMethod yX10_put ∈ TB := TB_in (List.mem_of_getElem? (i := 1146) (by decide +kernel)) rfl
theorem se_X10_put : Cond.selects RX10 yX10_put yX10_put ∈ TB := TB_in (List.mem_of_getElem? (i := 1147) (by decide +kernel)) rfl
abbrev m_X10_get : Mt := (RX10, cX10_get, 4, (some .int), 3, "get")
set_option maxRecDepth 20000 in
theorem cd_X10_get : Cond.code yX10_get cX10_get 4 (some .int) ∈ TB := TB_in (List.mem_of_getElem? (i := 1156) rfl) rfl
theorem im_X10_get : Cond.instanceMethod yX10_get ∈ TB := TB_in (List.mem_of_getElem? (i := 1154) (by decide +kernel)) rfl
theorem se_X10_get : Cond.selects RX10 yX10_get yX10_get ∈ TB := TB_in (List.mem_of_getElem? (i := 1155) (by decide +kernel)) rfl
abbrev m_X10_copy : Mt := (RX10, cX10_copy, 7, (some .int), 3, "copy")
set_option maxRecDepth 20000 in
theorem cd_X10_copy : Cond.code yX10_copy cX10_copy 7 (some .int) ∈ TB := TB_in (List.mem_of_getElem? (i := 1161) rfl) rfl
theorem im_X10_copy : Cond.instanceMethod yX10_copy ∈ TB := TB_in (List.mem_of_getElem? (i := 1159) (by decide +kernel)) rfl
theorem se_X10_copy : Cond.selects RX10 yX10_copy yX10_copy ∈ TB := TB_in (List.mem_of_getElem? (i := 1160) (by decide +kernel)) rfl
abbrev m_X10_sideOf : Mt := (RX10, cX10_sideOf, 1, (some .int), 1, "sideOf")
set_option maxRecDepth 20000 in
theorem cd_X10_sideOf : Cond.code yX10_sideOf cX10_sideOf 1 (some .int) ∈ TB := TB_in (List.mem_of_getElem? (i := 1184) rfl) rfl
theorem sx_X10_sideOf : Cond.static yX10_sideOf ∈ TB := TB_in (List.mem_of_getElem? (i := 1183) (by decide +kernel)) rfl
abbrev m_X10_kindOf : Mt := (RX10, cX10_kindOf, 1, (some .int), 1, "kindOf")
set_option maxRecDepth 20000 in
theorem cd_X10_kindOf : Cond.code yX10_kindOf cX10_kindOf 1 (some .int) ∈ TB := TB_in (List.mem_of_getElem? (i := 1177) rfl) rfl
theorem sx_X10_kindOf : Cond.static yX10_kindOf ∈ TB := TB_in (List.mem_of_getElem? (i := 1176) (by decide +kernel)) rfl
abbrev m_X10_isRaised : Mt := (RX10, cX10_isRaised, 1, (some .boolean), 1, "isRaised")
set_option maxRecDepth 20000 in
theorem cd_X10_isRaised : Cond.code yX10_isRaised cX10_isRaised 1 (some .boolean) ∈ TB := TB_in (List.mem_of_getElem? (i := 1174) rfl) rfl
theorem sx_X10_isRaised : Cond.static yX10_isRaised ∈ TB := TB_in (List.mem_of_getElem? (i := 1173) (by decide +kernel)) rfl
abbrev m_X10_rowsOf : Mt := (RX10, cX10_rowsOf, 1, (some .int), 1, "rowsOf")
set_option maxRecDepth 20000 in
theorem cd_X10_rowsOf : Cond.code yX10_rowsOf cX10_rowsOf 1 (some .int) ∈ TB := TB_in (List.mem_of_getElem? (i := 1203) rfl) rfl
theorem sx_X10_rowsOf : Cond.static yX10_rowsOf ∈ TB := TB_in (List.mem_of_getElem? (i := 1202) (by decide +kernel)) rfl
abbrev m_X10_columnsOf : Mt := (RX10, cX10_columnsOf, 1, (some .int), 1, "columnsOf")
set_option maxRecDepth 20000 in
theorem cd_X10_columnsOf : Cond.code yX10_columnsOf cX10_columnsOf 1 (some .int) ∈ TB := TB_in (List.mem_of_getElem? (i := 1206) rfl) rfl
theorem sx_X10_columnsOf : Cond.static yX10_columnsOf ∈ TB := TB_in (List.mem_of_getElem? (i := 1205) (by decide +kernel)) rfl
abbrev m_X10_along : Mt := (RX10, cX10_along, 6, (some .int), 2, "along")
set_option maxRecDepth 20000 in
theorem cd_X10_along : Cond.code yX10_along cX10_along 6 (some .int) ∈ TB := TB_in (List.mem_of_getElem? (i := 1200) rfl) rfl
theorem im_X10_along : Cond.instanceMethod yX10_along ∈ TB := TB_in (List.mem_of_getElem? (i := 1199) (by decide +kernel)) rfl
theorem se_X10_along : Cond.selects RX10 yX10_along yX10_along ∈ TB := TB_in (List.mem_of_getElem? (i := 41) (by decide +kernel)) rfl
abbrev m_X10_comesTo : Mt := (RX10, cX10_comesTo, 2, none, 1, "comesTo")
set_option maxRecDepth 20000 in
theorem cd_X10_comesTo : Cond.code yX10_comesTo cX10_comesTo 2 none ∈ TB := TB_in (List.mem_of_getElem? (i := 1210) rfl) rfl
theorem im_X10_comesTo : Cond.instanceMethod yX10_comesTo ∈ TB := TB_in (List.mem_of_getElem? (i := 1209) (by decide +kernel)) rfl
theorem se_X10_comesTo : Cond.selects RX10 yX10_comesTo yX10_comesTo ∈ TB := TB_in (List.mem_of_getElem? (i := 42) (by decide +kernel)) rfl
abbrev m_X10_reaches : Mt := (RX10, cX10_reaches, 8, none, 3, "reaches")
set_option maxRecDepth 20000 in
theorem cd_X10_reaches : Cond.code yX10_reaches cX10_reaches 8 none ∈ TB := TB_in (List.mem_of_getElem? (i := 1196) rfl) rfl
theorem im_X10_reaches : Cond.instanceMethod yX10_reaches ∈ TB := TB_in (List.mem_of_getElem? (i := 1195) (by decide +kernel)) rfl
theorem se_X10_reaches : Cond.selects RX10 yX10_reaches yX10_reaches ∈ TB := TB_in (List.mem_of_getElem? (i := 40) (by decide +kernel)) rfl
abbrev m_X10_couldGoOn : Mt := (RX10, cX10_couldGoOn, 6, (some .boolean), 3, "couldGoOn")
set_option maxRecDepth 20000 in
theorem cd_X10_couldGoOn : Cond.code yX10_couldGoOn cX10_couldGoOn 6 (some .boolean) ∈ TB := TB_in (List.mem_of_getElem? (i := 1234) rfl) rfl
theorem im_X10_couldGoOn : Cond.instanceMethod yX10_couldGoOn ∈ TB := TB_in (List.mem_of_getElem? (i := 1233) (by decide +kernel)) rfl
theorem se_X10_couldGoOn : Cond.selects RX10 yX10_couldGoOn yX10_couldGoOn ∈ TB := TB_in (List.mem_of_getElem? (i := 48) (by decide +kernel)) rfl
abbrev m_X10_isAttacked : Mt := (RX10, cX10_isAttacked, 6, (some .boolean), 4, "isAttacked")
set_option maxRecDepth 20000 in
theorem cd_X10_isAttacked : Cond.code yX10_isAttacked cX10_isAttacked 6 (some .boolean) ∈ TB := TB_in (List.mem_of_getElem? (i := 1192) rfl) rfl
theorem im_X10_isAttacked : Cond.instanceMethod yX10_isAttacked ∈ TB := TB_in (List.mem_of_getElem? (i := 1191) (by decide +kernel)) rfl
theorem se_X10_isAttacked : Cond.selects RX10 yX10_isAttacked yX10_isAttacked ∈ TB := TB_in (List.mem_of_getElem? (i := 39) (by decide +kernel)) rfl
abbrev m_X10_inCheck : Mt := (RX10, cX10_inCheck, 5, (some .boolean), 5, "inCheck")
set_option maxRecDepth 20000 in
theorem cd_X10_inCheck : Cond.code yX10_inCheck cX10_inCheck 5 (some .boolean) ∈ TB := TB_in (List.mem_of_getElem? (i := 1188) rfl) rfl
theorem im_X10_inCheck : Cond.instanceMethod yX10_inCheck ∈ TB := TB_in (List.mem_of_getElem? (i := 1187) (by decide +kernel)) rfl
theorem se_X10_inCheck : Cond.selects RX10 yX10_inCheck yX10_inCheck ∈ TB := TB_in (List.mem_of_getElem? (i := 38) (by decide +kernel)) rfl
abbrev m_X10_isZone : Mt := (RX10, cX10_isZone, 4, (some .boolean), 1, "isZone")
set_option maxRecDepth 20000 in
theorem cd_X10_isZone : Cond.code yX10_isZone cX10_isZone 4 (some .boolean) ∈ TB := TB_in (List.mem_of_getElem? (i := 1246) rfl) rfl
theorem im_X10_isZone : Cond.instanceMethod yX10_isZone ∈ TB := TB_in (List.mem_of_getElem? (i := 1245) (by decide +kernel)) rfl
theorem se_X10_isZone : Cond.selects RX10 yX10_isZone yX10_isZone ∈ TB := TB_in (List.mem_of_getElem? (i := 51) (by decide +kernel)) rfl
abbrev m_X10_make : Mt := (RX10, cX10_make, 9, none, 2, "make")
set_option maxRecDepth 20000 in
theorem cd_X10_make : Cond.code yX10_make cX10_make 9 none ∈ TB := TB_in (List.mem_of_getElem? (i := 1254) rfl) rfl
theorem im_X10_make : Cond.instanceMethod yX10_make ∈ TB := TB_in (List.mem_of_getElem? (i := 1253) (by decide +kernel)) rfl
theorem se_X10_make : Cond.selects RX10 yX10_make yX10_make ∈ TB := TB_in (List.mem_of_getElem? (i := 53) (by decide +kernel)) rfl
abbrev m_X10_tries : Mt := (RX10, cX10_tries, 7, none, 1, "tries")
set_option maxRecDepth 20000 in
theorem cd_X10_tries : Cond.code yX10_tries cX10_tries 7 none ∈ TB := TB_in (List.mem_of_getElem? (i := 1238) rfl) rfl
theorem im_X10_tries : Cond.instanceMethod yX10_tries ∈ TB := TB_in (List.mem_of_getElem? (i := 1237) (by decide +kernel)) rfl
theorem se_X10_tries : Cond.selects RX10 yX10_tries yX10_tries ∈ TB := TB_in (List.mem_of_getElem? (i := 49) (by decide +kernel)) rfl
abbrev m_X10_mayRaiseSo : Mt := (RX10, cX10_mayRaiseSo, 5, (some .boolean), 2, "mayRaiseSo")
set_option maxRecDepth 20000 in
theorem cd_X10_mayRaiseSo : Cond.code yX10_mayRaiseSo cX10_mayRaiseSo 5 (some .boolean) ∈ TB := TB_in (List.mem_of_getElem? (i := 1242) rfl) rfl
theorem im_X10_mayRaiseSo : Cond.instanceMethod yX10_mayRaiseSo ∈ TB := TB_in (List.mem_of_getElem? (i := 1241) (by decide +kernel)) rfl
theorem se_X10_mayRaiseSo : Cond.selects RX10 yX10_mayRaiseSo yX10_mayRaiseSo ∈ TB := TB_in (List.mem_of_getElem? (i := 50) (by decide +kernel)) rfl
abbrev m_X10_mayStay : Mt := (RX10, cX10_mayStay, 4, (some .boolean), 4, "mayStay")
set_option maxRecDepth 20000 in
theorem cd_X10_mayStay : Cond.code yX10_mayStay cX10_mayStay 4 (some .boolean) ∈ TB := TB_in (List.mem_of_getElem? (i := 1230) rfl) rfl
theorem im_X10_mayStay : Cond.instanceMethod yX10_mayStay ∈ TB := TB_in (List.mem_of_getElem? (i := 1229) (by decide +kernel)) rfl
theorem se_X10_mayStay : Cond.selects RX10 yX10_mayStay yX10_mayStay ∈ TB := TB_in (List.mem_of_getElem? (i := 47) (by decide +kernel)) rfl
abbrev m_X10_inColumn : Mt := (RX10, cX10_inColumn, 7, (some .boolean), 1, "inColumn")
set_option maxRecDepth 20000 in
theorem cd_X10_inColumn : Cond.code yX10_inColumn cX10_inColumn 7 (some .boolean) ∈ TB := TB_in (List.mem_of_getElem? (i := 1250) rfl) rfl
theorem im_X10_inColumn : Cond.instanceMethod yX10_inColumn ∈ TB := TB_in (List.mem_of_getElem? (i := 1249) (by decide +kernel)) rfl
theorem se_X10_inColumn : Cond.selects RX10 yX10_inColumn yX10_inColumn ∈ TB := TB_in (List.mem_of_getElem? (i := 52) (by decide +kernel)) rfl
abbrev m_X10_findTries : Mt := (RX10, cX10_findTries, 9, none, 5, "findTries")
set_option maxRecDepth 20000 in
theorem cd_X10_findTries : Cond.code yX10_findTries cX10_findTries 9 none ∈ TB := TB_in (List.mem_of_getElem? (i := 1226) rfl) rfl
theorem im_X10_findTries : Cond.instanceMethod yX10_findTries ∈ TB := TB_in (List.mem_of_getElem? (i := 1225) (by decide +kernel)) rfl
theorem se_X10_findTries : Cond.selects RX10 yX10_findTries yX10_findTries ∈ TB := TB_in (List.mem_of_getElem? (i := 46) (by decide +kernel)) rfl
abbrev m_X10_hasAny : Mt := (RX10, cX10_hasAny, 3, (some .boolean), 6, "hasAny")
set_option maxRecDepth 20000 in
theorem cd_X10_hasAny : Cond.code yX10_hasAny cX10_hasAny 3 (some .boolean) ∈ TB := TB_in (List.mem_of_getElem? (i := 1262) rfl) rfl
theorem im_X10_hasAny : Cond.instanceMethod yX10_hasAny ∈ TB := TB_in (List.mem_of_getElem? (i := 1261) (by decide +kernel)) rfl
theorem se_X10_hasAny : Cond.selects RX10 yX10_hasAny yX10_hasAny ∈ TB := TB_in (List.mem_of_getElem? (i := 55) (by decide +kernel)) rfl
abbrev m_X10_isMate : Mt := (RX10, cX10_isMate, 2, (some .boolean), 7, "isMate")
set_option maxRecDepth 20000 in
theorem cd_X10_isMate : Cond.code yX10_isMate cX10_isMate 2 (some .boolean) ∈ TB := TB_in (List.mem_of_getElem? (i := 1258) rfl) rfl
theorem im_X10_isMate : Cond.instanceMethod yX10_isMate ∈ TB := TB_in (List.mem_of_getElem? (i := 1257) (by decide +kernel)) rfl
theorem se_X10_isMate : Cond.selects RX10 yX10_isMate yX10_isMate ∈ TB := TB_in (List.mem_of_getElem? (i := 54) (by decide +kernel)) rfl
abbrev m_X10_findMoves : Mt := (RX10, cX10_findMoves, 5, none, 8, "findMoves")
set_option maxRecDepth 20000 in
theorem cd_X10_findMoves : Cond.code yX10_findMoves cX10_findMoves 5 none ∈ TB := TB_in (List.mem_of_getElem? (i := 1222) rfl) rfl
theorem im_X10_findMoves : Cond.instanceMethod yX10_findMoves ∈ TB := TB_in (List.mem_of_getElem? (i := 1221) (by decide +kernel)) rfl
theorem se_X10_findMoves : Cond.selects RX10 yX10_findMoves yX10_findMoves ∈ TB := TB_in (List.mem_of_getElem? (i := 45) (by decide +kernel)) rfl
abbrev m_X10_makeMove : Mt := (RX10, cX10_makeMove, 4, none, 3, "makeMove")
set_option maxRecDepth 20000 in
theorem cd_X10_makeMove : Cond.code yX10_makeMove cX10_makeMove 4 none ∈ TB := TB_in (List.mem_of_getElem? (i := 1327) rfl) rfl
theorem im_X10_makeMove : Cond.instanceMethod yX10_makeMove ∈ TB := TB_in (List.mem_of_getElem? (i := 1326) (by decide +kernel)) rfl
theorem se_X10_makeMove : Cond.selects RX10 yX10_makeMove yX10_makeMove ∈ TB := TB_in (List.mem_of_getElem? (i := 61) (by decide +kernel)) rfl
abbrev m_X10_indexOf : Mt := (RX10, cX10_indexOf, 8, (some .int), 1, "indexOf")
set_option maxRecDepth 20000 in
theorem cd_X10_indexOf : Cond.code yX10_indexOf cX10_indexOf 8 (some .int) ∈ TB := TB_in (List.mem_of_getElem? (i := 1400) rfl) rfl
theorem im_X10_indexOf : Cond.instanceMethod yX10_indexOf ∈ TB := TB_in (List.mem_of_getElem? (i := 1399) (by decide +kernel)) rfl
theorem se_X10_indexOf : Cond.selects RX10 yX10_indexOf yX10_indexOf ∈ TB := TB_in (List.mem_of_getElem? (i := 68) (by decide +kernel)) rfl
abbrev m_X10_hand : Mt := (RX10, cX10_hand, 5, (some .int), 2, "hand")
set_option maxRecDepth 20000 in
theorem cd_X10_hand : Cond.code yX10_hand cX10_hand 5 (some .int) ∈ TB := TB_in (List.mem_of_getElem? (i := 1165) rfl) rfl
theorem im_X10_hand : Cond.instanceMethod yX10_hand ∈ TB := TB_in (List.mem_of_getElem? (i := 1163) (by decide +kernel)) rfl
theorem se_X10_hand : Cond.selects RX10 yX10_hand yX10_hand ∈ TB := TB_in (List.mem_of_getElem? (i := 1164) (by decide +kernel)) rfl
abbrev m_X10_keepStand : Mt := (RX10, cX10_keepStand, 5, none, 1, "keepStand")
set_option maxRecDepth 20000 in
theorem cd_X10_keepStand : Cond.code yX10_keepStand cX10_keepStand 5 none ∈ TB := TB_in (List.mem_of_getElem? (i := 1214) rfl) rfl
theorem im_X10_keepStand : Cond.instanceMethod yX10_keepStand ∈ TB := TB_in (List.mem_of_getElem? (i := 1213) (by decide +kernel)) rfl
theorem se_X10_keepStand : Cond.selects RX10 yX10_keepStand yX10_keepStand ∈ TB := TB_in (List.mem_of_getElem? (i := 43) (by decide +kernel)) rfl
abbrev m_X10_layStand : Mt := (RX10, cX10_layStand, 5, none, 1, "layStand")
set_option maxRecDepth 20000 in
theorem cd_X10_layStand : Cond.code yX10_layStand cX10_layStand 5 none ∈ TB := TB_in (List.mem_of_getElem? (i := 1343) rfl) rfl
theorem im_X10_layStand : Cond.instanceMethod yX10_layStand ∈ TB := TB_in (List.mem_of_getElem? (i := 1342) (by decide +kernel)) rfl
theorem se_X10_layStand : Cond.selects RX10 yX10_layStand yX10_layStand ∈ TB := TB_in (List.mem_of_getElem? (i := 63) (by decide +kernel)) rfl
abbrev m_X10_areSame : Mt := (RX10, cX10_areSame, 5, (some .boolean), 1, "areSame")
set_option maxRecDepth 20000 in
theorem cd_X10_areSame : Cond.code yX10_areSame cX10_areSame 5 (some .boolean) ∈ TB := TB_in (List.mem_of_getElem? (i := 1270) rfl) rfl
theorem im_X10_areSame : Cond.instanceMethod yX10_areSame ∈ TB := TB_in (List.mem_of_getElem? (i := 1269) (by decide +kernel)) rfl
theorem se_X10_areSame : Cond.selects RX10 yX10_areSame yX10_areSame ∈ TB := TB_in (List.mem_of_getElem? (i := 57) (by decide +kernel)) rfl
abbrev m_X10_comes : Mt := (RX10, cX10_comes, 5, (some .int), 2, "comes")
set_option maxRecDepth 20000 in
theorem cd_X10_comes : Cond.code yX10_comes cX10_comes 5 (some .int) ∈ TB := TB_in (List.mem_of_getElem? (i := 1266) rfl) rfl
theorem im_X10_comes : Cond.instanceMethod yX10_comes ∈ TB := TB_in (List.mem_of_getElem? (i := 1265) (by decide +kernel)) rfl
theorem se_X10_comes : Cond.selects RX10 yX10_comes yX10_comes ∈ TB := TB_in (List.mem_of_getElem? (i := 56) (by decide +kernel)) rfl
abbrev m_X10_firstOf : Mt := (RX10, cX10_firstOf, 4, (some .int), 2, "firstOf")
set_option maxRecDepth 20000 in
theorem cd_X10_firstOf : Cond.code yX10_firstOf cX10_firstOf 4 (some .int) ∈ TB := TB_in (List.mem_of_getElem? (i := 1274) rfl) rfl
theorem im_X10_firstOf : Cond.instanceMethod yX10_firstOf ∈ TB := TB_in (List.mem_of_getElem? (i := 1273) (by decide +kernel)) rfl
theorem se_X10_firstOf : Cond.selects RX10 yX10_firstOf yX10_firstOf ∈ TB := TB_in (List.mem_of_getElem? (i := 58) (by decide +kernel)) rfl
abbrev m_X10_chased : Mt := (RX10, cX10_chased, 7, (some .boolean), 1, "chased")
set_option maxRecDepth 20000 in
theorem cd_X10_chased : Cond.code yX10_chased cX10_chased 7 (some .boolean) ∈ TB := TB_in (List.mem_of_getElem? (i := 1278) rfl) rfl
theorem im_X10_chased : Cond.instanceMethod yX10_chased ∈ TB := TB_in (List.mem_of_getElem? (i := 1277) (by decide +kernel)) rfl
theorem se_X10_chased : Cond.selects RX10 yX10_chased yX10_chased ∈ TB := TB_in (List.mem_of_getElem? (i := 59) (by decide +kernel)) rfl
abbrev m_X10_stateOf : Mt := (RX10, cX10_stateOf, 4, (some .int), 9, "stateOf")
set_option maxRecDepth 20000 in
theorem cd_X10_stateOf : Cond.code yX10_stateOf cX10_stateOf 4 (some .int) ∈ TB := TB_in (List.mem_of_getElem? (i := 1218) rfl) rfl
theorem im_X10_stateOf : Cond.instanceMethod yX10_stateOf ∈ TB := TB_in (List.mem_of_getElem? (i := 1217) (by decide +kernel)) rfl
theorem se_X10_stateOf : Cond.selects RX10 yX10_stateOf yX10_stateOf ∈ TB := TB_in (List.mem_of_getElem? (i := 44) (by decide +kernel)) rfl
abbrev m_X10_stand : Mt := (RX10, cX10_stand, 6, (some .int), 10, "stand")
set_option maxRecDepth 20000 in
theorem cd_X10_stand : Cond.code yX10_stand cX10_stand 6 (some .int) ∈ TB := TB_in (List.mem_of_getElem? (i := 1170) rfl) rfl
theorem im_X10_stand : Cond.instanceMethod yX10_stand ∈ TB := TB_in (List.mem_of_getElem? (i := 1168) (by decide +kernel)) rfl
theorem se_X10_stand : Cond.selects RX10 yX10_stand yX10_stand ∈ TB := TB_in (List.mem_of_getElem? (i := 1169) (by decide +kernel)) rfl
abbrev m_X10_clear : Mt := (RX10, cX10_clear, 1, (some .int), 1, "clear")
set_option maxRecDepth 20000 in
theorem cd_X10_clear : Cond.code yX10_clear cX10_clear 1 (some .int) ∈ TB := TB_in (List.mem_of_getElem? (i := 1282) rfl) rfl
theorem im_X10_clear : Cond.instanceMethod yX10_clear ∈ TB := TB_in (List.mem_of_getElem? (i := 1280) (by decide +kernel)) rfl
theorem se_X10_clear : Cond.selects RX10 yX10_clear yX10_clear ∈ TB := TB_in (List.mem_of_getElem? (i := 1281) (by decide +kernel)) rfl
abbrev m_X10_isField : Mt := (RX10, cX10_isField, 2, (some .boolean), 2, "isField")
set_option maxRecDepth 20000 in
theorem cd_X10_isField : Cond.code yX10_isField cX10_isField 2 (some .boolean) ∈ TB := TB_in (List.mem_of_getElem? (i := 1290) rfl) rfl
theorem im_X10_isField : Cond.instanceMethod yX10_isField ∈ TB := TB_in (List.mem_of_getElem? (i := 1289) (by decide +kernel)) rfl
theorem se_X10_isField : Cond.selects RX10 yX10_isField yX10_isField ∈ TB := TB_in (List.mem_of_getElem? (i := 60) (by decide +kernel)) rfl
abbrev m_X10_field : Mt := (RX10, cX10_field, 2, (some .int), 3, "field")
set_option maxRecDepth 20000 in
theorem cd_X10_field : Cond.code yX10_field cX10_field 2 (some .int) ∈ TB := TB_in (List.mem_of_getElem? (i := 1286) rfl) rfl
theorem im_X10_field : Cond.instanceMethod yX10_field ∈ TB := TB_in (List.mem_of_getElem? (i := 1284) (by decide +kernel)) rfl
theorem se_X10_field : Cond.selects RX10 yX10_field yX10_field ∈ TB := TB_in (List.mem_of_getElem? (i := 1285) (by decide +kernel)) rfl
abbrev m_X10_has : Mt := (RX10, cX10_has, 3, (some .int), 2, "has")
set_option maxRecDepth 20000 in
theorem cd_X10_has : Cond.code yX10_has cX10_has 3 (some .int) ∈ TB := TB_in (List.mem_of_getElem? (i := 1294) rfl) rfl
theorem im_X10_has : Cond.instanceMethod yX10_has ∈ TB := TB_in (List.mem_of_getElem? (i := 1292) (by decide +kernel)) rfl
theorem se_X10_has : Cond.selects RX10 yX10_has yX10_has ∈ TB := TB_in (List.mem_of_getElem? (i := 1293) (by decide +kernel)) rfl
abbrev m_X10_attacks : Mt := (RX10, cX10_attacks, 3, (some .int), 5, "attacks")
set_option maxRecDepth 20000 in
theorem cd_X10_attacks : Cond.code yX10_attacks cX10_attacks 3 (some .int) ∈ TB := TB_in (List.mem_of_getElem? (i := 1298) rfl) rfl
theorem im_X10_attacks : Cond.instanceMethod yX10_attacks ∈ TB := TB_in (List.mem_of_getElem? (i := 1296) (by decide +kernel)) rfl
theorem se_X10_attacks : Cond.selects RX10 yX10_attacks yX10_attacks ∈ TB := TB_in (List.mem_of_getElem? (i := 1297) (by decide +kernel)) rfl
abbrev m_X10_check : Mt := (RX10, cX10_check, 2, (some .int), 6, "check")
set_option maxRecDepth 20000 in
theorem cd_X10_check : Cond.code yX10_check cX10_check 2 (some .int) ∈ TB := TB_in (List.mem_of_getElem? (i := 1302) rfl) rfl
theorem im_X10_check : Cond.instanceMethod yX10_check ∈ TB := TB_in (List.mem_of_getElem? (i := 1300) (by decide +kernel)) rfl
theorem se_X10_check : Cond.selects RX10 yX10_check yX10_check ∈ TB := TB_in (List.mem_of_getElem? (i := 1301) (by decide +kernel)) rfl
abbrev m_X10_moves : Mt := (RX10, cX10_moves, 1, (some .int), 9, "moves")
set_option maxRecDepth 20000 in
theorem cd_X10_moves : Cond.code yX10_moves cX10_moves 1 (some .int) ∈ TB := TB_in (List.mem_of_getElem? (i := 1306) rfl) rfl
theorem im_X10_moves : Cond.instanceMethod yX10_moves ∈ TB := TB_in (List.mem_of_getElem? (i := 1304) (by decide +kernel)) rfl
theorem se_X10_moves : Cond.selects RX10 yX10_moves yX10_moves ∈ TB := TB_in (List.mem_of_getElem? (i := 1305) (by decide +kernel)) rfl
abbrev m_X10_move : Mt := (RX10, cX10_move, 3, (some .int), 9, "move")
set_option maxRecDepth 20000 in
theorem cd_X10_move : Cond.code yX10_move cX10_move 3 (some .int) ∈ TB := TB_in (List.mem_of_getElem? (i := 1310) rfl) rfl
theorem im_X10_move : Cond.instanceMethod yX10_move ∈ TB := TB_in (List.mem_of_getElem? (i := 1308) (by decide +kernel)) rfl
theorem se_X10_move : Cond.selects RX10 yX10_move yX10_move ∈ TB := TB_in (List.mem_of_getElem? (i := 1309) (by decide +kernel)) rfl
abbrev m_X10_why : Mt := (RX10, cX10_why, 6, (some .int), 6, "why")
set_option maxRecDepth 20000 in
theorem cd_X10_why : Cond.code yX10_why cX10_why 6 (some .int) ∈ TB := TB_in (List.mem_of_getElem? (i := 1315) rfl) rfl
theorem im_X10_why : Cond.instanceMethod yX10_why ∈ TB := TB_in (List.mem_of_getElem? (i := 1313) (by decide +kernel)) rfl
theorem se_X10_why : Cond.selects RX10 yX10_why yX10_why ∈ TB := TB_in (List.mem_of_getElem? (i := 1314) (by decide +kernel)) rfl
abbrev m_X10_whySet : Mt := (RX10, cX10_whySet, 4, (some .int), 8, "whySet")
set_option maxRecDepth 20000 in
theorem cd_X10_whySet : Cond.code yX10_whySet cX10_whySet 4 (some .int) ∈ TB := TB_in (List.mem_of_getElem? (i := 1319) rfl) rfl
theorem im_X10_whySet : Cond.instanceMethod yX10_whySet ∈ TB := TB_in (List.mem_of_getElem? (i := 1317) (by decide +kernel)) rfl
theorem se_X10_whySet : Cond.selects RX10 yX10_whySet yX10_whySet ∈ TB := TB_in (List.mem_of_getElem? (i := 1318) (by decide +kernel)) rfl
abbrev m_X10_rows : Mt := (RX10, cX10_rows, 5, (some .int), 9, "rows")
set_option maxRecDepth 20000 in
theorem cd_X10_rows : Cond.code yX10_rows cX10_rows 5 (some .int) ∈ TB := TB_in (List.mem_of_getElem? (i := 1323) rfl) rfl
theorem im_X10_rows : Cond.instanceMethod yX10_rows ∈ TB := TB_in (List.mem_of_getElem? (i := 1321) (by decide +kernel)) rfl
theorem se_X10_rows : Cond.selects RX10 yX10_rows yX10_rows ∈ TB := TB_in (List.mem_of_getElem? (i := 1322) (by decide +kernel)) rfl
abbrev m_X10_doMove : Mt := (RX10, cX10_doMove, 6, none, 6, "doMove")
set_option maxRecDepth 20000 in
theorem cd_X10_doMove : Cond.code yX10_doMove cX10_doMove 6 none ∈ TB := TB_in (List.mem_of_getElem? (i := 1335) rfl) rfl
theorem im_X10_doMove : Cond.instanceMethod yX10_doMove ∈ TB := TB_in (List.mem_of_getElem? (i := 1334) (by decide +kernel)) rfl
theorem se_X10_doMove : Cond.selects RX10 yX10_doMove yX10_doMove ∈ TB := TB_in (List.mem_of_getElem? (i := 62) (by decide +kernel)) rfl
abbrev m_X10_go : Mt := (RX10, cX10_go, 2, (some .int), 10, "go")
set_option maxRecDepth 20000 in
theorem cd_X10_go : Cond.code yX10_go cX10_go 2 (some .int) ∈ TB := TB_in (List.mem_of_getElem? (i := 1331) rfl) rfl
theorem im_X10_go : Cond.instanceMethod yX10_go ∈ TB := TB_in (List.mem_of_getElem? (i := 1329) (by decide +kernel)) rfl
theorem se_X10_go : Cond.selects RX10 yX10_go yX10_go ∈ TB := TB_in (List.mem_of_getElem? (i := 1330) (by decide +kernel)) rfl
abbrev m_X10_back : Mt := (RX10, cX10_back, 1, (some .int), 10, "back")
set_option maxRecDepth 20000 in
theorem cd_X10_back : Cond.code yX10_back cX10_back 1 (some .int) ∈ TB := TB_in (List.mem_of_getElem? (i := 1339) rfl) rfl
theorem im_X10_back : Cond.instanceMethod yX10_back ∈ TB := TB_in (List.mem_of_getElem? (i := 1337) (by decide +kernel)) rfl
theorem se_X10_back : Cond.selects RX10 yX10_back yX10_back ∈ TB := TB_in (List.mem_of_getElem? (i := 1338) (by decide +kernel)) rfl
abbrev m_X10_forth : Mt := (RX10, cX10_forth, 1, (some .int), 10, "forth")
set_option maxRecDepth 20000 in
theorem cd_X10_forth : Cond.code yX10_forth cX10_forth 1 (some .int) ∈ TB := TB_in (List.mem_of_getElem? (i := 1347) rfl) rfl
theorem im_X10_forth : Cond.instanceMethod yX10_forth ∈ TB := TB_in (List.mem_of_getElem? (i := 1345) (by decide +kernel)) rfl
theorem se_X10_forth : Cond.selects RX10 yX10_forth yX10_forth ∈ TB := TB_in (List.mem_of_getElem? (i := 1346) (by decide +kernel)) rfl
abbrev m_X10_play : Mt := (RX10, cX10_play, 2, (some .int), 3, "play")
set_option maxRecDepth 20000 in
theorem cd_X10_play : Cond.code yX10_play cX10_play 2 (some .int) ∈ TB := TB_in (List.mem_of_getElem? (i := 1351) rfl) rfl
theorem im_X10_play : Cond.instanceMethod yX10_play ∈ TB := TB_in (List.mem_of_getElem? (i := 1349) (by decide +kernel)) rfl
theorem se_X10_play : Cond.selects RX10 yX10_play yX10_play ∈ TB := TB_in (List.mem_of_getElem? (i := 1350) (by decide +kernel)) rfl
abbrev m_X10_fuel : Mt := (RX10, cX10_fuel, 3, (some .int), 2, "fuel")
set_option maxRecDepth 20000 in
theorem cd_X10_fuel : Cond.code yX10_fuel cX10_fuel 3 (some .int) ∈ TB := TB_in (List.mem_of_getElem? (i := 1355) rfl) rfl
theorem im_X10_fuel : Cond.instanceMethod yX10_fuel ∈ TB := TB_in (List.mem_of_getElem? (i := 1353) (by decide +kernel)) rfl
theorem se_X10_fuel : Cond.selects RX10 yX10_fuel yX10_fuel ∈ TB := TB_in (List.mem_of_getElem? (i := 1354) (by decide +kernel)) rfl
abbrev m_X10_notes : Mt := (RX10, cX10_notes, 3, (some .boolean), 1, "notes")
set_option maxRecDepth 20000 in
theorem cd_X10_notes : Cond.code yX10_notes cX10_notes 3 (some .boolean) ∈ TB := TB_in (List.mem_of_getElem? (i := 1372) rfl) rfl
theorem im_X10_notes : Cond.instanceMethod yX10_notes ∈ TB := TB_in (List.mem_of_getElem? (i := 1371) (by decide +kernel)) rfl
theorem se_X10_notes : Cond.selects RX10 yX10_notes yX10_notes ∈ TB := TB_in (List.mem_of_getElem? (i := 66) (by decide +kernel)) rfl
abbrev m_X10_nextCheck : Mt := (RX10, cX10_nextCheck, 2, (some .boolean), 6, "nextCheck")
set_option maxRecDepth 20000 in
theorem cd_X10_nextCheck : Cond.code yX10_nextCheck cX10_nextCheck 2 (some .boolean) ∈ TB := TB_in (List.mem_of_getElem? (i := 1368) rfl) rfl
theorem im_X10_nextCheck : Cond.instanceMethod yX10_nextCheck ∈ TB := TB_in (List.mem_of_getElem? (i := 1367) (by decide +kernel)) rfl
theorem se_X10_nextCheck : Cond.selects RX10 yX10_nextCheck yX10_nextCheck ∈ TB := TB_in (List.mem_of_getElem? (i := 65) (by decide +kernel)) rfl
abbrev m_X10_hunts : Mt := (RX10, cX10_hunts, 3, (some .int), 9, "hunts")
set_option maxRecDepth 20000 in
theorem cd_X10_hunts : Cond.code yX10_hunts cX10_hunts 3 (some .int) ∈ TB := TB_in (List.mem_of_getElem? (i := 1364) rfl) rfl
theorem im_X10_hunts : Cond.instanceMethod yX10_hunts ∈ TB := TB_in (List.mem_of_getElem? (i := 1363) (by decide +kernel)) rfl
theorem se_X10_hunts : Cond.selects RX10 yX10_hunts yX10_hunts ∈ TB := TB_in (List.mem_of_getElem? (i := 64) (by decide +kernel)) rfl
abbrev m_X10_hunt : Mt := (RX10, cX10_hunt, 4, (some .int), 10, "hunt")
set_option maxRecDepth 20000 in
theorem cd_X10_hunt : Cond.code yX10_hunt cX10_hunt 4 (some .int) ∈ TB := TB_in (List.mem_of_getElem? (i := 1360) rfl) rfl
theorem im_X10_hunt : Cond.instanceMethod yX10_hunt ∈ TB := TB_in (List.mem_of_getElem? (i := 1358) (by decide +kernel)) rfl
theorem se_X10_hunt : Cond.selects RX10 yX10_hunt yX10_hunt ∈ TB := TB_in (List.mem_of_getElem? (i := 1359) (by decide +kernel)) rfl
abbrev m_X10_spent : Mt := (RX10, cX10_spent, 1, (some .int), 1, "spent")
set_option maxRecDepth 20000 in
theorem cd_X10_spent : Cond.code yX10_spent cX10_spent 1 (some .int) ∈ TB := TB_in (List.mem_of_getElem? (i := 1376) rfl) rfl
theorem im_X10_spent : Cond.instanceMethod yX10_spent ∈ TB := TB_in (List.mem_of_getElem? (i := 1374) (by decide +kernel)) rfl
theorem se_X10_spent : Cond.selects RX10 yX10_spent yX10_spent ∈ TB := TB_in (List.mem_of_getElem? (i := 1375) (by decide +kernel)) rfl
abbrev m_X10_tree : Mt := (RX10, cX10_tree, 1, (some .int), 1, "tree")
set_option maxRecDepth 20000 in
theorem cd_X10_tree : Cond.code yX10_tree cX10_tree 1 (some .int) ∈ TB := TB_in (List.mem_of_getElem? (i := 1380) rfl) rfl
theorem im_X10_tree : Cond.instanceMethod yX10_tree ∈ TB := TB_in (List.mem_of_getElem? (i := 1378) (by decide +kernel)) rfl
theorem se_X10_tree : Cond.selects RX10 yX10_tree yX10_tree ∈ TB := TB_in (List.mem_of_getElem? (i := 1379) (by decide +kernel)) rfl
abbrev m_X10_within : Mt := (RX10, cX10_within, 3, (some .int), 1, "within")
set_option maxRecDepth 20000 in
theorem cd_X10_within : Cond.code yX10_within cX10_within 3 (some .int) ∈ TB := TB_in (List.mem_of_getElem? (i := 1388) rfl) rfl
theorem im_X10_within : Cond.instanceMethod yX10_within ∈ TB := TB_in (List.mem_of_getElem? (i := 1387) (by decide +kernel)) rfl
theorem se_X10_within : Cond.selects RX10 yX10_within yX10_within ∈ TB := TB_in (List.mem_of_getElem? (i := 67) (by decide +kernel)) rfl
abbrev m_X10_node : Mt := (RX10, cX10_node, 3, (some .int), 2, "node")
set_option maxRecDepth 20000 in
theorem cd_X10_node : Cond.code yX10_node cX10_node 3 (some .int) ∈ TB := TB_in (List.mem_of_getElem? (i := 1384) rfl) rfl
theorem im_X10_node : Cond.instanceMethod yX10_node ∈ TB := TB_in (List.mem_of_getElem? (i := 1382) (by decide +kernel)) rfl
theorem se_X10_node : Cond.selects RX10 yX10_node yX10_node ∈ TB := TB_in (List.mem_of_getElem? (i := 1383) (by decide +kernel)) rfl
abbrev m_X10_forge : Mt := (RX10, cX10_forge, 7, (some .int), 3, "forge")
set_option maxRecDepth 20000 in
theorem cd_X10_forge : Cond.code yX10_forge cX10_forge 7 (some .int) ∈ TB := TB_in (List.mem_of_getElem? (i := 1392) rfl) rfl
theorem im_X10_forge : Cond.instanceMethod yX10_forge ∈ TB := TB_in (List.mem_of_getElem? (i := 1390) (by decide +kernel)) rfl
theorem se_X10_forge : Cond.selects RX10 yX10_forge yX10_forge ∈ TB := TB_in (List.mem_of_getElem? (i := 1391) (by decide +kernel)) rfl
abbrev m_X10_manyIn : Mt := (RX10, cX10_manyIn, 4, (some .int), 1, "manyIn")
set_option maxRecDepth 20000 in
theorem cd_X10_manyIn : Cond.code yX10_manyIn cX10_manyIn 4 (some .int) ∈ TB := TB_in (List.mem_of_getElem? (i := 1404) rfl) rfl
theorem im_X10_manyIn : Cond.instanceMethod yX10_manyIn ∈ TB := TB_in (List.mem_of_getElem? (i := 1403) (by decide +kernel)) rfl
theorem se_X10_manyIn : Cond.selects RX10 yX10_manyIn yX10_manyIn ∈ TB := TB_in (List.mem_of_getElem? (i := 69) (by decide +kernel)) rfl
abbrev m_X10_verify : Mt := (RX10, cX10_verify, 4, (some .int), 9, "verify")
set_option maxRecDepth 20000 in
theorem cd_X10_verify : Cond.code yX10_verify cX10_verify 4 (some .int) ∈ TB := TB_in (List.mem_of_getElem? (i := 1396) rfl) rfl
theorem im_X10_verify : Cond.instanceMethod yX10_verify ∈ TB := TB_in (List.mem_of_getElem? (i := 1394) (by decide +kernel)) rfl
theorem se_X10_verify : Cond.selects RX10 yX10_verify yX10_verify ∈ TB := TB_in (List.mem_of_getElem? (i := 1395) (by decide +kernel)) rfl
abbrev m_X10_say : Mt := (RX10, cX10_say, 2, none, 1, "say")
set_option maxRecDepth 20000 in
theorem cd_X10_say : Cond.code yX10_say cX10_say 2 none ∈ TB := TB_in (List.mem_of_getElem? (i := 1412) rfl) rfl
theorem im_X10_say : Cond.instanceMethod yX10_say ∈ TB := TB_in (List.mem_of_getElem? (i := 1411) (by decide +kernel)) rfl
theorem se_X10_say : Cond.selects RX10 yX10_say yX10_say ∈ TB := TB_in (List.mem_of_getElem? (i := 70) (by decide +kernel)) rfl
abbrev m_X10_sayField : Mt := (RX10, cX10_sayField, 2, none, 2, "sayField")
set_option maxRecDepth 20000 in
theorem cd_X10_sayField : Cond.code yX10_sayField cX10_sayField 2 none ∈ TB := TB_in (List.mem_of_getElem? (i := 1416) rfl) rfl
theorem im_X10_sayField : Cond.instanceMethod yX10_sayField ∈ TB := TB_in (List.mem_of_getElem? (i := 1415) (by decide +kernel)) rfl
theorem se_X10_sayField : Cond.selects RX10 yX10_sayField yX10_sayField ∈ TB := TB_in (List.mem_of_getElem? (i := 71) (by decide +kernel)) rfl
abbrev m_X10_write : Mt := (RX10, cX10_write, 3, (some .int), 3, "write")
set_option maxRecDepth 20000 in
theorem cd_X10_write : Cond.code yX10_write cX10_write 3 (some .int) ∈ TB := TB_in (List.mem_of_getElem? (i := 1408) rfl) rfl
theorem im_X10_write : Cond.instanceMethod yX10_write ∈ TB := TB_in (List.mem_of_getElem? (i := 1406) (by decide +kernel)) rfl
theorem se_X10_write : Cond.selects RX10 yX10_write yX10_write ∈ TB := TB_in (List.mem_of_getElem? (i := 1407) (by decide +kernel)) rfl
abbrev m_X10_type : Mt := (RX10, cX10_type, 2, (some .int), 2, "type")
set_option maxRecDepth 20000 in
theorem cd_X10_type : Cond.code yX10_type cX10_type 2 (some .int) ∈ TB := TB_in (List.mem_of_getElem? (i := 1420) rfl) rfl
theorem im_X10_type : Cond.instanceMethod yX10_type ∈ TB := TB_in (List.mem_of_getElem? (i := 1418) (by decide +kernel)) rfl
theorem se_X10_type : Cond.selects RX10 yX10_type yX10_type ∈ TB := TB_in (List.mem_of_getElem? (i := 1419) (by decide +kernel)) rfl
abbrev m_X10_wipe : Mt := (RX10, cX10_wipe, 2, (some .int), 1, "wipe")
set_option maxRecDepth 20000 in
theorem cd_X10_wipe : Cond.code yX10_wipe cX10_wipe 2 (some .int) ∈ TB := TB_in (List.mem_of_getElem? (i := 1424) rfl) rfl
theorem im_X10_wipe : Cond.instanceMethod yX10_wipe ∈ TB := TB_in (List.mem_of_getElem? (i := 1422) (by decide +kernel)) rfl
theorem se_X10_wipe : Cond.selects RX10 yX10_wipe yX10_wipe ∈ TB := TB_in (List.mem_of_getElem? (i := 1423) (by decide +kernel)) rfl
abbrev m_X10_letter : Mt := (RX10, cX10_letter, 2, (some .int), 2, "letter")
set_option maxRecDepth 20000 in
theorem cd_X10_letter : Cond.code yX10_letter cX10_letter 2 (some .int) ∈ TB := TB_in (List.mem_of_getElem? (i := 1428) rfl) rfl
theorem im_X10_letter : Cond.instanceMethod yX10_letter ∈ TB := TB_in (List.mem_of_getElem? (i := 1426) (by decide +kernel)) rfl
theorem se_X10_letter : Cond.selects RX10 yX10_letter yX10_letter ∈ TB := TB_in (List.mem_of_getElem? (i := 1427) (by decide +kernel)) rfl
abbrev m_X10_fieldAt : Mt := (RX10, cX10_fieldAt, 4, (some .int), 2, "fieldAt")
set_option maxRecDepth 20000 in
theorem cd_X10_fieldAt : Cond.code yX10_fieldAt cX10_fieldAt 4 (some .int) ∈ TB := TB_in (List.mem_of_getElem? (i := 1440) rfl) rfl
theorem im_X10_fieldAt : Cond.instanceMethod yX10_fieldAt ∈ TB := TB_in (List.mem_of_getElem? (i := 1439) (by decide +kernel)) rfl
theorem se_X10_fieldAt : Cond.selects RX10 yX10_fieldAt yX10_fieldAt ∈ TB := TB_in (List.mem_of_getElem? (i := 73) (by decide +kernel)) rfl
abbrev m_X10_told : Mt := (RX10, cX10_told, 7, (some .int), 3, "told")
set_option maxRecDepth 20000 in
theorem cd_X10_told : Cond.code yX10_told cX10_told 7 (some .int) ∈ TB := TB_in (List.mem_of_getElem? (i := 1436) rfl) rfl
theorem im_X10_told : Cond.instanceMethod yX10_told ∈ TB := TB_in (List.mem_of_getElem? (i := 1435) (by decide +kernel)) rfl
theorem se_X10_told : Cond.selects RX10 yX10_told yX10_told ∈ TB := TB_in (List.mem_of_getElem? (i := 72) (by decide +kernel)) rfl
abbrev m_X10_read : Mt := (RX10, cX10_read, 8, (some .int), 10, "read")
set_option maxRecDepth 20000 in
theorem cd_X10_read : Cond.code yX10_read cX10_read 8 (some .int) ∈ TB := TB_in (List.mem_of_getElem? (i := 1432) rfl) rfl
theorem im_X10_read : Cond.instanceMethod yX10_read ∈ TB := TB_in (List.mem_of_getElem? (i := 1430) (by decide +kernel)) rfl
theorem se_X10_read : Cond.selects RX10 yX10_read yX10_read ∈ TB := TB_in (List.mem_of_getElem? (i := 1431) (by decide +kernel)) rfl
abbrev m_X10_digest : Mt := (RX10, cX10_digest, 5, (some .long), 4, "digest")
set_option maxRecDepth 20000 in
theorem cd_X10_digest : Cond.code yX10_digest cX10_digest 5 (some .long) ∈ TB := TB_in (List.mem_of_getElem? (i := 1446) rfl) rfl
theorem im_X10_digest : Cond.instanceMethod yX10_digest ∈ TB := TB_in (List.mem_of_getElem? (i := 1444) (by decide +kernel)) rfl
theorem se_X10_digest : Cond.selects RX10 yX10_digest yX10_digest ∈ TB := TB_in (List.mem_of_getElem? (i := 1445) (by decide +kernel)) rfl
theorem ini_X10 : Cond.initialized RX10 ∈ TB := TB_in (List.mem_of_getElem? (i := 83) (by decide +kernel)) rfl
theorem ga_X10 : (u_ws RX10 TX10 52).all goodWord = true := by decide +kernel
theorem tb_X10 : ∀ w ∈ u_ws RX10 TX10 52, w ∈ TB := fun w hw => TB_in ((goodIn_r (big := lw_tbl) (u_ws RX10 TX10 52) [1012, 1014, 1016, 1018, 1020, 1022, 1024, 1026, 1028, 1030, 1032, 1034, 1036, 1038, 1040, 1042, 1044, 1046, 1048, 1050, 1052, 1054, 1056, 1058, 1060, 1062, 1064, 1066, 1068, 1070, 1072, 1074, 1076, 1078, 1080, 1082, 1084, 1086, 1088, 1090, 1092, 1094, 1096, 1098, 1100, 1102, 1104, 1106, 1108, 1110, 1112, 1114] (by decide +kernel) ga_X10) w hw).1 (List.all_eq_true.mp ga_X10 w hw)
theorem lk_X10_150 : Cond.fieldLink RX10 150 RX10 "found" "I" ∈ TB := TB_in (List.mem_of_getElem? (i := 961) (by decide +kernel)) rfl
theorem fl_X10_150 : FL RX10 150 8 1 := ⟨RX10, TX10, 52, rfl, by decide, tb_X10, lk_X10_150⟩
theorem fp_X10_150 : FP RX10 150 8 1 .int := ⟨RX10, TX10, 52, tyX10, rfl, by decide, tb_X10, lk_X10_150, tyX10_ok, nmX10, rfl, by decide +kernel⟩
theorem st_50_1 (a : Nat → Nat) (w : Wd) (v : Int32) : (fvs a w 50).set 1 (.int v) = fvs a (wdI w 50 1 v) 50 := rfl
theorem lk_X10_7 : Cond.fieldLink RX10 7 RX10 "steps" "[I" ∈ TB := TB_in (List.mem_of_getElem? (i := 962) (by decide +kernel)) rfl
theorem fl_X10_7 : FL RX10 7 8 2 := ⟨RX10, TX10, 52, rfl, by decide, tb_X10, lk_X10_7⟩
theorem lk_X10_13 : Cond.fieldLink RX10 13 RX10 "runs" "[I" ∈ TB := TB_in (List.mem_of_getElem? (i := 963) (by decide +kernel)) rfl
theorem fl_X10_13 : FL RX10 13 8 3 := ⟨RX10, TX10, 52, rfl, by decide, tb_X10, lk_X10_13⟩
theorem lk_X10_16 : Cond.fieldLink RX10 16 RX10 "marks" "[I" ∈ TB := TB_in (List.mem_of_getElem? (i := 964) (by decide +kernel)) rfl
theorem fl_X10_16 : FL RX10 16 8 4 := ⟨RX10, TX10, 52, rfl, by decide, tb_X10, lk_X10_16⟩
theorem k_X10_137 : Cond.constantLong RX10 137 (7 : Int64) ∈ TB := TB_in (List.mem_of_getElem? (i := 952) (by decide +kernel)) rfl
theorem ml_X10_139 : Cond.methodLink RX10 139 yX10_in ∈ TB := TB_in (List.mem_of_getElem? (i := 953) (by decide +kernel)) rfl
theorem cb_X10_139 : CB RX10 139 yX10_in m_X10_in 3 := ⟨cd_X10_in, ml_X10_139, ini_X10, by decide +kernel⟩
theorem lk_X10_159 : Cond.fieldLink RX10 159 RX10 "stands" "Z" ∈ TB := TB_in (List.mem_of_getElem? (i := 985) (by decide +kernel)) rfl
theorem fl_X10_159 : FL RX10 159 8 25 := ⟨RX10, TX10, 52, rfl, by decide, tb_X10, lk_X10_159⟩
theorem ml_X10_146 : Cond.methodLink RX10 146 yX10_tell ∈ TB := TB_in (List.mem_of_getElem? (i := 956) (by decide +kernel)) rfl
theorem cb_X10_146 : CB RX10 146 yX10_tell m_X10_tell 6 := ⟨cd_X10_tell, ml_X10_146, ini_X10, by decide +kernel⟩
theorem k_X10_153 : Cond.constantLong RX10 153 (1023 : Int64) ∈ TB := TB_in (List.mem_of_getElem? (i := 1125) (by decide +kernel)) rfl
theorem k_X10_155 : Cond.constantLong RX10 155 (255 : Int64) ∈ TB := TB_in (List.mem_of_getElem? (i := 1126) (by decide +kernel)) rfl
theorem k_X10_157 : Cond.constantLong RX10 157 (3 : Int64) ∈ TB := TB_in (List.mem_of_getElem? (i := 1127) (by decide +kernel)) rfl
theorem lk_X10_143 : Cond.fieldLink RX10 143 RX10 "n" "I" ∈ TB := TB_in (List.mem_of_getElem? (i := 960) (by decide +kernel)) rfl
theorem fl_X10_143 : FL RX10 143 8 0 := ⟨RX10, TX10, 52, rfl, by decide, tb_X10, lk_X10_143⟩
theorem ml_X10_163 : Cond.methodLink RX10 163 yX10_isLine ∈ TB := TB_in (List.mem_of_getElem? (i := 1132) (by decide +kernel)) rfl
theorem cb_X10_163 : CB RX10 163 yX10_isLine m_X10_isLine 1 := ⟨cd_X10_isLine, ml_X10_163, ini_X10, by decide +kernel⟩
theorem k_X10_167 : Cond.constantLong RX10 167 (2 : Int64) ∈ TB := TB_in (List.mem_of_getElem? (i := 1136) (by decide +kernel)) rfl
theorem lk_X10_19 : Cond.fieldLink RX10 19 RX10 "forms" "[I" ∈ TB := TB_in (List.mem_of_getElem? (i := 965) (by decide +kernel)) rfl
theorem fl_X10_19 : FL RX10 19 8 5 := ⟨RX10, TX10, 52, rfl, by decide, tb_X10, lk_X10_19⟩
theorem lk_X10_22 : Cond.fieldLink RX10 22 RX10 "sizes" "[I" ∈ TB := TB_in (List.mem_of_getElem? (i := 966) (by decide +kernel)) rfl
theorem fl_X10_22 : FL RX10 22 8 6 := ⟨RX10, TX10, 52, rfl, by decide, tb_X10, lk_X10_22⟩
theorem lk_X10_25 : Cond.fieldLink RX10 25 RX10 "items" "[I" ∈ TB := TB_in (List.mem_of_getElem? (i := 967) (by decide +kernel)) rfl
theorem fl_X10_25 : FL RX10 25 8 7 := ⟨RX10, TX10, 52, rfl, by decide, tb_X10, lk_X10_25⟩
theorem ml_X10_169 : Cond.methodLink RX10 169 yX10_met ∈ TB := TB_in (List.mem_of_getElem? (i := 1137) (by decide +kernel)) rfl
theorem cb_X10_169 : CB RX10 169 yX10_met m_X10_met 1 := ⟨cd_X10_met, ml_X10_169, ini_X10, by decide +kernel⟩
theorem ml_X10_173 : Cond.methodLink RX10 173 yX10_lacks ∈ TB := TB_in (List.mem_of_getElem? (i := 1149) (by decide +kernel)) rfl
theorem cb_X10_173 : CB RX10 173 yX10_lacks m_X10_lacks 3 := ⟨cd_X10_lacks, ml_X10_173, ini_X10, by decide +kernel⟩
theorem k_X10_177 : Cond.constant RX10 177 (-2147483648 : Int32) ∈ TB := TB_in (List.mem_of_getElem? (i := 1157) (by decide +kernel)) rfl
theorem lk_X10_28 : Cond.fieldLink RX10 28 RX10 "moved" "[I" ∈ TB := TB_in (List.mem_of_getElem? (i := 968) (by decide +kernel)) rfl
theorem fl_X10_28 : FL RX10 28 8 8 := ⟨RX10, TX10, 52, rfl, by decide, tb_X10, lk_X10_28⟩
theorem ml_X10_178 : Cond.methodLink RX10 178 yX10_rowsOf ∈ TB := TB_in (List.mem_of_getElem? (i := 1201) (by decide +kernel)) rfl
theorem cb_X10_178 : CB RX10 178 yX10_rowsOf m_X10_rowsOf 1 := ⟨cd_X10_rowsOf, ml_X10_178, ini_X10, by decide +kernel⟩
theorem ml_X10_181 : Cond.methodLink RX10 181 yX10_columnsOf ∈ TB := TB_in (List.mem_of_getElem? (i := 1204) (by decide +kernel)) rfl
theorem cb_X10_181 : CB RX10 181 yX10_columnsOf m_X10_columnsOf 1 := ⟨cd_X10_columnsOf, ml_X10_181, ini_X10, by decide +kernel⟩
theorem lk_X10_73 : Cond.fieldLink RX10 73 RX10 "isReached" "[Z" ∈ TB := TB_in (List.mem_of_getElem? (i := 984) (by decide +kernel)) rfl
theorem fl_X10_73 : FL RX10 73 8 24 := ⟨RX10, TX10, 52, rfl, by decide, tb_X10, lk_X10_73⟩
theorem lk_X10_70 : Cond.fieldLink RX10 70 RX10 "reach" "[I" ∈ TB := TB_in (List.mem_of_getElem? (i := 983) (by decide +kernel)) rfl
theorem fl_X10_70 : FL RX10 70 8 23 := ⟨RX10, TX10, 52, rfl, by decide, tb_X10, lk_X10_70⟩
theorem lk_X10_184 : Cond.fieldLink RX10 184 RX10 "reached" "I" ∈ TB := TB_in (List.mem_of_getElem? (i := 982) (by decide +kernel)) rfl
theorem fl_X10_184 : FL RX10 184 8 22 := ⟨RX10, TX10, 52, rfl, by decide, tb_X10, lk_X10_184⟩
theorem fp_X10_184 : FP RX10 184 8 22 .int := ⟨RX10, TX10, 52, tyX10, rfl, by decide, tb_X10, lk_X10_184, tyX10_ok, nmX10, rfl, by decide +kernel⟩
theorem st_50_22 (a : Nat → Nat) (w : Wd) (v : Int32) : (fvs a w 50).set 22 (.int v) = fvs a (wdI w 50 22 v) 50 := rfl
theorem ml_X10_187 : Cond.methodLink RX10 187 yX10_kindOf ∈ TB := TB_in (List.mem_of_getElem? (i := 1175) (by decide +kernel)) rfl
theorem cb_X10_187 : CB RX10 187 yX10_kindOf m_X10_kindOf 1 := ⟨cd_X10_kindOf, ml_X10_187, ini_X10, by decide +kernel⟩
theorem ml_X10_190 : Cond.methodLink RX10 190 yX10_isRaised ∈ TB := TB_in (List.mem_of_getElem? (i := 1172) (by decide +kernel)) rfl
theorem cb_X10_190 : CB RX10 190 yX10_isRaised m_X10_isRaised 1 := ⟨cd_X10_isRaised, ml_X10_190, ini_X10, by decide +kernel⟩
theorem ml_X10_193 : Cond.methodLink RX10 193 yX10_sideOf ∈ TB := TB_in (List.mem_of_getElem? (i := 1182) (by decide +kernel)) rfl
theorem cb_X10_193 : CB RX10 193 yX10_sideOf m_X10_sideOf 1 := ⟨cd_X10_sideOf, ml_X10_193, ini_X10, by decide +kernel⟩
theorem ml_X10_199 : Cond.methodLink RX10 199 yX10_comesTo ∈ TB := TB_in (List.mem_of_getElem? (i := 1207) (by decide +kernel)) rfl
theorem cb_X10_199 : CB RX10 199 yX10_comesTo m_X10_comesTo 1 := ⟨cd_X10_comesTo, ml_X10_199, ini_X10, by decide +kernel⟩
theorem ml_X10_196 : Cond.methodLink RX10 196 yX10_along ∈ TB := TB_in (List.mem_of_getElem? (i := 1197) (by decide +kernel)) rfl
theorem cb_X10_196 : CB RX10 196 yX10_along m_X10_along 3 := ⟨cd_X10_along, ml_X10_196, ini_X10, by decide +kernel⟩
theorem lk_X10_31 : Cond.fieldLink RX10 31 RX10 "board" "[I" ∈ TB := TB_in (List.mem_of_getElem? (i := 969) (by decide +kernel)) rfl
theorem fl_X10_31 : FL RX10 31 8 9 := ⟨RX10, TX10, 52, rfl, by decide, tb_X10, lk_X10_31⟩
theorem ml_X10_203 : Cond.methodLink RX10 203 yX10_reaches ∈ TB := TB_in (List.mem_of_getElem? (i := 1193) (by decide +kernel)) rfl
theorem cb_X10_203 : CB RX10 203 yX10_reaches m_X10_reaches 3 := ⟨cd_X10_reaches, ml_X10_203, ini_X10, by decide +kernel⟩
theorem ml_X10_207 : Cond.methodLink RX10 207 yX10_isAttacked ∈ TB := TB_in (List.mem_of_getElem? (i := 1189) (by decide +kernel)) rfl
theorem cb_X10_207 : CB RX10 207 yX10_isAttacked m_X10_isAttacked 3 := ⟨cd_X10_isAttacked, ml_X10_207, ini_X10, by decide +kernel⟩
theorem lk_X10_34 : Cond.fieldLink RX10 34 RX10 "hands" "[I" ∈ TB := TB_in (List.mem_of_getElem? (i := 970) (by decide +kernel)) rfl
theorem fl_X10_34 : FL RX10 34 8 10 := ⟨RX10, TX10, 52, rfl, by decide, tb_X10, lk_X10_34⟩
theorem lk_X10_37 : Cond.fieldLink RX10 37 RX10 "sides" "[I" ∈ TB := TB_in (List.mem_of_getElem? (i := 971) (by decide +kernel)) rfl
theorem fl_X10_37 : FL RX10 37 8 11 := ⟨RX10, TX10, 52, rfl, by decide, tb_X10, lk_X10_37⟩
theorem lk_X10_55 : Cond.fieldLink RX10 55 RX10 "manyTries" "[I" ∈ TB := TB_in (List.mem_of_getElem? (i := 977) (by decide +kernel)) rfl
theorem fl_X10_55 : FL RX10 55 8 17 := ⟨RX10, TX10, 52, rfl, by decide, tb_X10, lk_X10_55⟩
theorem lk_X10_58 : Cond.fieldLink RX10 58 RX10 "tryFrom" "[I" ∈ TB := TB_in (List.mem_of_getElem? (i := 978) (by decide +kernel)) rfl
theorem fl_X10_58 : FL RX10 58 8 18 := ⟨RX10, TX10, 52, rfl, by decide, tb_X10, lk_X10_58⟩
theorem lk_X10_61 : Cond.fieldLink RX10 61 RX10 "tryTo" "[I" ∈ TB := TB_in (List.mem_of_getElem? (i := 979) (by decide +kernel)) rfl
theorem fl_X10_61 : FL RX10 61 8 19 := ⟨RX10, TX10, 52, rfl, by decide, tb_X10, lk_X10_61⟩
theorem lk_X10_64 : Cond.fieldLink RX10 64 RX10 "tryRaise" "[I" ∈ TB := TB_in (List.mem_of_getElem? (i := 980) (by decide +kernel)) rfl
theorem fl_X10_64 : FL RX10 64 8 20 := ⟨RX10, TX10, 52, rfl, by decide, tb_X10, lk_X10_64⟩
theorem lk_X10_67 : Cond.fieldLink RX10 67 RX10 "tryKind" "[I" ∈ TB := TB_in (List.mem_of_getElem? (i := 981) (by decide +kernel)) rfl
theorem fl_X10_67 : FL RX10 67 8 21 := ⟨RX10, TX10, 52, rfl, by decide, tb_X10, lk_X10_67⟩
theorem ml_X10_211 : Cond.methodLink RX10 211 yX10_mayRaise ∈ TB := TB_in (List.mem_of_getElem? (i := 1178) (by decide +kernel)) rfl
theorem cb_X10_211 : CB RX10 211 yX10_mayRaise m_X10_mayRaise 1 := ⟨cd_X10_mayRaise, ml_X10_211, ini_X10, by decide +kernel⟩
theorem ml_X10_214 : Cond.methodLink RX10 214 yX10_isZone ∈ TB := TB_in (List.mem_of_getElem? (i := 1243) (by decide +kernel)) rfl
theorem cb_X10_214 : CB RX10 214 yX10_isZone m_X10_isZone 2 := ⟨cd_X10_isZone, ml_X10_214, ini_X10, by decide +kernel⟩
theorem ml_X10_218 : Cond.methodLink RX10 218 yX10_couldGoOn ∈ TB := TB_in (List.mem_of_getElem? (i := 1231) (by decide +kernel)) rfl
theorem cb_X10_218 : CB RX10 218 yX10_couldGoOn m_X10_couldGoOn 3 := ⟨cd_X10_couldGoOn, ml_X10_218, ini_X10, by decide +kernel⟩
theorem ml_X10_228 : Cond.methodLink RX10 228 yX10_mayRaiseSo ∈ TB := TB_in (List.mem_of_getElem? (i := 1239) (by decide +kernel)) rfl
theorem cb_X10_228 : CB RX10 228 yX10_mayRaiseSo m_X10_mayRaiseSo 4 := ⟨cd_X10_mayRaiseSo, ml_X10_228, ini_X10, by decide +kernel⟩
theorem ml_X10_224 : Cond.methodLink RX10 224 yX10_tries ∈ TB := TB_in (List.mem_of_getElem? (i := 1235) (by decide +kernel)) rfl
theorem cb_X10_224 : CB RX10 224 yX10_tries m_X10_tries 5 := ⟨cd_X10_tries, ml_X10_224, ini_X10, by decide +kernel⟩
theorem ml_X10_221 : Cond.methodLink RX10 221 yX10_mayStay ∈ TB := TB_in (List.mem_of_getElem? (i := 1227) (by decide +kernel)) rfl
theorem cb_X10_221 : CB RX10 221 yX10_mayStay m_X10_mayStay 3 := ⟨cd_X10_mayStay, ml_X10_221, ini_X10, by decide +kernel⟩
theorem ml_X10_232 : Cond.methodLink RX10 232 yX10_inColumn ∈ TB := TB_in (List.mem_of_getElem? (i := 1247) (by decide +kernel)) rfl
theorem cb_X10_232 : CB RX10 232 yX10_inColumn m_X10_inColumn 4 := ⟨cd_X10_inColumn, ml_X10_232, ini_X10, by decide +kernel⟩
theorem ml_X10_235 : Cond.methodLink RX10 235 yX10_findTries ∈ TB := TB_in (List.mem_of_getElem? (i := 1223) (by decide +kernel)) rfl
theorem cb_X10_235 : CB RX10 235 yX10_findTries m_X10_findTries 1 := ⟨cd_X10_findTries, ml_X10_235, ini_X10, by decide +kernel⟩
theorem ml_X10_238 : Cond.methodLink RX10 238 yX10_make ∈ TB := TB_in (List.mem_of_getElem? (i := 1251) (by decide +kernel)) rfl
theorem cb_X10_238 : CB RX10 238 yX10_make m_X10_make 5 := ⟨cd_X10_make, ml_X10_238, ini_X10, by decide +kernel⟩
theorem ml_X10_241 : Cond.methodLink RX10 241 yX10_inCheck ∈ TB := TB_in (List.mem_of_getElem? (i := 1185) (by decide +kernel)) rfl
theorem cb_X10_241 : CB RX10 241 yX10_inCheck m_X10_inCheck 2 := ⟨cd_X10_inCheck, ml_X10_241, ini_X10, by decide +kernel⟩
theorem ml_X10_244 : Cond.methodLink RX10 244 yX10_hasAny ∈ TB := TB_in (List.mem_of_getElem? (i := 1259) (by decide +kernel)) rfl
theorem cb_X10_244 : CB RX10 244 yX10_hasAny m_X10_hasAny 1 := ⟨cd_X10_hasAny, ml_X10_244, ini_X10, by decide +kernel⟩
theorem lk_X10_40 : Cond.fieldLink RX10 40 RX10 "manyMoves" "[I" ∈ TB := TB_in (List.mem_of_getElem? (i := 972) (by decide +kernel)) rfl
theorem fl_X10_40 : FL RX10 40 8 12 := ⟨RX10, TX10, 52, rfl, by decide, tb_X10, lk_X10_40⟩
theorem lk_X10_43 : Cond.fieldLink RX10 43 RX10 "moveFrom" "[I" ∈ TB := TB_in (List.mem_of_getElem? (i := 973) (by decide +kernel)) rfl
theorem fl_X10_43 : FL RX10 43 8 13 := ⟨RX10, TX10, 52, rfl, by decide, tb_X10, lk_X10_43⟩
theorem lk_X10_46 : Cond.fieldLink RX10 46 RX10 "moveTo" "[I" ∈ TB := TB_in (List.mem_of_getElem? (i := 974) (by decide +kernel)) rfl
theorem fl_X10_46 : FL RX10 46 8 14 := ⟨RX10, TX10, 52, rfl, by decide, tb_X10, lk_X10_46⟩
theorem lk_X10_49 : Cond.fieldLink RX10 49 RX10 "moveRaise" "[I" ∈ TB := TB_in (List.mem_of_getElem? (i := 975) (by decide +kernel)) rfl
theorem fl_X10_49 : FL RX10 49 8 15 := ⟨RX10, TX10, 52, rfl, by decide, tb_X10, lk_X10_49⟩
theorem lk_X10_52 : Cond.fieldLink RX10 52 RX10 "moveKind" "[I" ∈ TB := TB_in (List.mem_of_getElem? (i := 976) (by decide +kernel)) rfl
theorem fl_X10_52 : FL RX10 52 8 16 := ⟨RX10, TX10, 52, rfl, by decide, tb_X10, lk_X10_52⟩
theorem ml_X10_247 : Cond.methodLink RX10 247 yX10_isMate ∈ TB := TB_in (List.mem_of_getElem? (i := 1255) (by decide +kernel)) rfl
theorem cb_X10_247 : CB RX10 247 yX10_isMate m_X10_isMate 1 := ⟨cd_X10_isMate, ml_X10_247, ini_X10, by decide +kernel⟩
theorem k_X10_250 : Cond.constantLong RX10 250 (9 : Int64) ∈ TB := TB_in (List.mem_of_getElem? (i := 1166) (by decide +kernel)) rfl
theorem lk_X10_77 : Cond.fieldLink RX10 77 RX10 "handTold" "[I" ∈ TB := TB_in (List.mem_of_getElem? (i := 986) (by decide +kernel)) rfl
theorem fl_X10_77 : FL RX10 77 8 26 := ⟨RX10, TX10, 52, rfl, by decide, tb_X10, lk_X10_77⟩
theorem lk_X10_80 : Cond.fieldLink RX10 80 RX10 "kept" "[I" ∈ TB := TB_in (List.mem_of_getElem? (i := 987) (by decide +kernel)) rfl
theorem fl_X10_80 : FL RX10 80 8 27 := ⟨RX10, TX10, 52, rfl, by decide, tb_X10, lk_X10_80⟩
theorem lk_X10_83 : Cond.fieldLink RX10 83 RX10 "keptHands" "[I" ∈ TB := TB_in (List.mem_of_getElem? (i := 988) (by decide +kernel)) rfl
theorem fl_X10_83 : FL RX10 83 8 28 := ⟨RX10, TX10, 52, rfl, by decide, tb_X10, lk_X10_83⟩
theorem lk_X10_86 : Cond.fieldLink RX10 86 RX10 "keptSide" "[I" ∈ TB := TB_in (List.mem_of_getElem? (i := 989) (by decide +kernel)) rfl
theorem fl_X10_86 : FL RX10 86 8 29 := ⟨RX10, TX10, 52, rfl, by decide, tb_X10, lk_X10_86⟩
theorem ml_X10_252 : Cond.methodLink RX10 252 yX10_areSame ∈ TB := TB_in (List.mem_of_getElem? (i := 1267) (by decide +kernel)) rfl
theorem cb_X10_252 : CB RX10 252 yX10_areSame m_X10_areSame 2 := ⟨cd_X10_areSame, ml_X10_252, ini_X10, by decide +kernel⟩
theorem lk_X10_101 : Cond.fieldLink RX10 101 RX10 "gaveCheck" "[Z" ∈ TB := TB_in (List.mem_of_getElem? (i := 994) (by decide +kernel)) rfl
theorem fl_X10_101 : FL RX10 101 8 34 := ⟨RX10, TX10, 52, rfl, by decide, tb_X10, lk_X10_101⟩
theorem ml_X10_255 : Cond.methodLink RX10 255 yX10_findMoves ∈ TB := TB_in (List.mem_of_getElem? (i := 1219) (by decide +kernel)) rfl
theorem cb_X10_255 : CB RX10 255 yX10_findMoves m_X10_findMoves 1 := ⟨cd_X10_findMoves, ml_X10_255, ini_X10, by decide +kernel⟩
theorem ml_X10_258 : Cond.methodLink RX10 258 yX10_comes ∈ TB := TB_in (List.mem_of_getElem? (i := 1263) (by decide +kernel)) rfl
theorem cb_X10_258 : CB RX10 258 yX10_comes m_X10_comes 2 := ⟨cd_X10_comes, ml_X10_258, ini_X10, by decide +kernel⟩
theorem ml_X10_262 : Cond.methodLink RX10 262 yX10_firstOf ∈ TB := TB_in (List.mem_of_getElem? (i := 1271) (by decide +kernel)) rfl
theorem cb_X10_262 : CB RX10 262 yX10_firstOf m_X10_firstOf 2 := ⟨cd_X10_firstOf, ml_X10_262, ini_X10, by decide +kernel⟩
theorem ml_X10_265 : Cond.methodLink RX10 265 yX10_chased ∈ TB := TB_in (List.mem_of_getElem? (i := 1275) (by decide +kernel)) rfl
theorem cb_X10_265 : CB RX10 265 yX10_chased m_X10_chased 4 := ⟨cd_X10_chased, ml_X10_265, ini_X10, by decide +kernel⟩
theorem k_X10_268 : Cond.constantLong RX10 268 (32 : Int64) ∈ TB := TB_in (List.mem_of_getElem? (i := 1171) (by decide +kernel)) rfl
theorem fp_X10_159 : FP RX10 159 8 25 .boolean := ⟨RX10, TX10, 52, tyX10, rfl, by decide, tb_X10, lk_X10_159, tyX10_ok, nmX10, rfl, by decide +kernel⟩
theorem st_50_25 (a : Nat → Nat) (w : Wd) (v : Int32) : (fvs a w 50).set 25 (.int v) = fvs a (wdI w 50 25 v) 50 := rfl
theorem lk_X10_270 : Cond.fieldLink RX10 270 RX10 "now" "I" ∈ TB := TB_in (List.mem_of_getElem? (i := 995) (by decide +kernel)) rfl
theorem fl_X10_270 : FL RX10 270 8 35 := ⟨RX10, TX10, 52, rfl, by decide, tb_X10, lk_X10_270⟩
theorem fp_X10_270 : FP RX10 270 8 35 .int := ⟨RX10, TX10, 52, tyX10, rfl, by decide, tb_X10, lk_X10_270, tyX10_ok, nmX10, rfl, by decide +kernel⟩
theorem st_50_35 (a : Nat → Nat) (w : Wd) (v : Int32) : (fvs a w 50).set 35 (.int v) = fvs a (wdI w 50 35 v) 50 := rfl
theorem lk_X10_273 : Cond.fieldLink RX10 273 RX10 "done" "I" ∈ TB := TB_in (List.mem_of_getElem? (i := 996) (by decide +kernel)) rfl
theorem fl_X10_273 : FL RX10 273 8 36 := ⟨RX10, TX10, 52, rfl, by decide, tb_X10, lk_X10_273⟩
theorem fp_X10_273 : FP RX10 273 8 36 .int := ⟨RX10, TX10, 52, tyX10, rfl, by decide, tb_X10, lk_X10_273, tyX10_ok, nmX10, rfl, by decide +kernel⟩
theorem st_50_36 (a : Nat → Nat) (w : Wd) (v : Int32) : (fvs a w 50).set 36 (.int v) = fvs a (wdI w 50 36 v) 50 := rfl
theorem lk_X10_276 : Cond.fieldLink RX10 276 RX10 "all" "I" ∈ TB := TB_in (List.mem_of_getElem? (i := 997) (by decide +kernel)) rfl
theorem fl_X10_276 : FL RX10 276 8 37 := ⟨RX10, TX10, 52, rfl, by decide, tb_X10, lk_X10_276⟩
theorem fp_X10_276 : FP RX10 276 8 37 .int := ⟨RX10, TX10, 52, tyX10, rfl, by decide, tb_X10, lk_X10_276, tyX10_ok, nmX10, rfl, by decide +kernel⟩
theorem st_50_37 (a : Nat → Nat) (w : Wd) (v : Int32) : (fvs a w 50).set 37 (.int v) = fvs a (wdI w 50 37 v) 50 := rfl
theorem ml_X10_279 : Cond.methodLink RX10 279 yX10_keepStand ∈ TB := TB_in (List.mem_of_getElem? (i := 1211) (by decide +kernel)) rfl
theorem cb_X10_279 : CB RX10 279 yX10_keepStand m_X10_keepStand 2 := ⟨cd_X10_keepStand, ml_X10_279, ini_X10, by decide +kernel⟩
theorem ml_X10_283 : Cond.methodLink RX10 283 yX10_stateOf ∈ TB := TB_in (List.mem_of_getElem? (i := 1215) (by decide +kernel)) rfl
theorem cb_X10_283 : CB RX10 283 yX10_stateOf m_X10_stateOf 2 := ⟨cd_X10_stateOf, ml_X10_283, ini_X10, by decide +kernel⟩
theorem lk_X10_286 : Cond.fieldLink RX10 286 RX10 "state" "I" ∈ TB := TB_in (List.mem_of_getElem? (i := 998) (by decide +kernel)) rfl
theorem fl_X10_286 : FL RX10 286 8 38 := ⟨RX10, TX10, 52, rfl, by decide, tb_X10, lk_X10_286⟩
theorem fp_X10_286 : FP RX10 286 8 38 .int := ⟨RX10, TX10, 52, tyX10, rfl, by decide, tb_X10, lk_X10_286, tyX10_ok, nmX10, rfl, by decide +kernel⟩
theorem st_50_38 (a : Nat → Nat) (w : Wd) (v : Int32) : (fvs a w 50).set 38 (.int v) = fvs a (wdI w 50 38 v) 50 := rfl
theorem lk_X10_289 : Cond.fieldLink RX10 289 RX10 "nodes" "I" ∈ TB := TB_in (List.mem_of_getElem? (i := 1001) (by decide +kernel)) rfl
theorem fl_X10_289 : FL RX10 289 8 41 := ⟨RX10, TX10, 52, rfl, by decide, tb_X10, lk_X10_289⟩
theorem fp_X10_289 : FP RX10 289 8 41 .int := ⟨RX10, TX10, 52, tyX10, rfl, by decide, tb_X10, lk_X10_289, tyX10_ok, nmX10, rfl, by decide +kernel⟩
theorem st_50_41 (a : Nat → Nat) (w : Wd) (v : Int32) : (fvs a w 50).set 41 (.int v) = fvs a (wdI w 50 41 v) 50 := rfl
theorem ml_X10_292 : Cond.methodLink RX10 292 yX10_isField ∈ TB := TB_in (List.mem_of_getElem? (i := 1287) (by decide +kernel)) rfl
theorem cb_X10_292 : CB RX10 292 yX10_isField m_X10_isField 1 := ⟨cd_X10_isField, ml_X10_292, ini_X10, by decide +kernel⟩
theorem k_X10_295 : Cond.constantLong RX10 295 (4 : Int64) ∈ TB := TB_in (List.mem_of_getElem? (i := 1311) (by decide +kernel)) rfl
theorem ml_X10_297 : Cond.methodLink RX10 297 yX10_makeMove ∈ TB := TB_in (List.mem_of_getElem? (i := 1324) (by decide +kernel)) rfl
theorem cb_X10_297 : CB RX10 297 yX10_makeMove m_X10_makeMove 2 := ⟨cd_X10_makeMove, ml_X10_297, ini_X10, by decide +kernel⟩
theorem lk_X10_89 : Cond.fieldLink RX10 89 RX10 "playFrom" "[I" ∈ TB := TB_in (List.mem_of_getElem? (i := 990) (by decide +kernel)) rfl
theorem fl_X10_89 : FL RX10 89 8 30 := ⟨RX10, TX10, 52, rfl, by decide, tb_X10, lk_X10_89⟩
theorem lk_X10_92 : Cond.fieldLink RX10 92 RX10 "playTo" "[I" ∈ TB := TB_in (List.mem_of_getElem? (i := 991) (by decide +kernel)) rfl
theorem fl_X10_92 : FL RX10 92 8 31 := ⟨RX10, TX10, 52, rfl, by decide, tb_X10, lk_X10_92⟩
theorem lk_X10_95 : Cond.fieldLink RX10 95 RX10 "playRaise" "[I" ∈ TB := TB_in (List.mem_of_getElem? (i := 992) (by decide +kernel)) rfl
theorem fl_X10_95 : FL RX10 95 8 32 := ⟨RX10, TX10, 52, rfl, by decide, tb_X10, lk_X10_95⟩
theorem lk_X10_98 : Cond.fieldLink RX10 98 RX10 "playKind" "[I" ∈ TB := TB_in (List.mem_of_getElem? (i := 993) (by decide +kernel)) rfl
theorem fl_X10_98 : FL RX10 98 8 33 := ⟨RX10, TX10, 52, rfl, by decide, tb_X10, lk_X10_98⟩
theorem ml_X10_300 : Cond.methodLink RX10 300 yX10_doMove ∈ TB := TB_in (List.mem_of_getElem? (i := 1332) (by decide +kernel)) rfl
theorem cb_X10_300 : CB RX10 300 yX10_doMove m_X10_doMove 3 := ⟨cd_X10_doMove, ml_X10_300, ini_X10, by decide +kernel⟩
theorem ml_X10_303 : Cond.methodLink RX10 303 yX10_layStand ∈ TB := TB_in (List.mem_of_getElem? (i := 1340) (by decide +kernel)) rfl
theorem cb_X10_303 : CB RX10 303 yX10_layStand m_X10_layStand 2 := ⟨cd_X10_layStand, ml_X10_303, ini_X10, by decide +kernel⟩
theorem k_X10_135 : Cond.constantLong RX10 135 (5 : Int64) ∈ TB := TB_in (List.mem_of_getElem? (i := 951) (by decide +kernel)) rfl
theorem k_X10_306 : Cond.constantLong RX10 306 (1000 : Int64) ∈ TB := TB_in (List.mem_of_getElem? (i := 1356) (by decide +kernel)) rfl
theorem lk_X10_104 : Cond.fieldLink RX10 104 RX10 "fuel" "I" ∈ TB := TB_in (List.mem_of_getElem? (i := 999) (by decide +kernel)) rfl
theorem fl_X10_104 : FL RX10 104 8 39 := ⟨RX10, TX10, 52, rfl, by decide, tb_X10, lk_X10_104⟩
theorem fp_X10_104 : FP RX10 104 8 39 .int := ⟨RX10, TX10, 52, tyX10, rfl, by decide, tb_X10, lk_X10_104, tyX10_ok, nmX10, rfl, by decide +kernel⟩
theorem st_50_39 (a : Nat → Nat) (w : Wd) (v : Int32) : (fvs a w 50).set 39 (.int v) = fvs a (wdI w 50 39 v) 50 := rfl
theorem lk_X10_308 : Cond.fieldLink RX10 308 RX10 "spent" "I" ∈ TB := TB_in (List.mem_of_getElem? (i := 1000) (by decide +kernel)) rfl
theorem fl_X10_308 : FL RX10 308 8 40 := ⟨RX10, TX10, 52, rfl, by decide, tb_X10, lk_X10_308⟩
theorem fp_X10_308 : FP RX10 308 8 40 .int := ⟨RX10, TX10, 52, tyX10, rfl, by decide, tb_X10, lk_X10_308, tyX10_ok, nmX10, rfl, by decide +kernel⟩
theorem st_50_40 (a : Nat → Nat) (w : Wd) (v : Int32) : (fvs a w 50).set 40 (.int v) = fvs a (wdI w 50 40 v) 50 := rfl
theorem lk_X10_126 : Cond.fieldLink RX10 126 RX10 "hand" "[I" ∈ TB := TB_in (List.mem_of_getElem? (i := 1008) (by decide +kernel)) rfl
theorem fl_X10_126 : FL RX10 126 8 48 := ⟨RX10, TX10, 52, rfl, by decide, tb_X10, lk_X10_126⟩
theorem lk_X10_108 : Cond.fieldLink RX10 108 RX10 "nodeIn" "[I" ∈ TB := TB_in (List.mem_of_getElem? (i := 1002) (by decide +kernel)) rfl
theorem fl_X10_108 : FL RX10 108 8 42 := ⟨RX10, TX10, 52, rfl, by decide, tb_X10, lk_X10_108⟩
theorem lk_X10_129 : Cond.fieldLink RX10 129 RX10 "nodeAt" "[I" ∈ TB := TB_in (List.mem_of_getElem? (i := 1009) (by decide +kernel)) rfl
theorem fl_X10_129 : FL RX10 129 8 49 := ⟨RX10, TX10, 52, rfl, by decide, tb_X10, lk_X10_129⟩
theorem lk_X10_111 : Cond.fieldLink RX10 111 RX10 "nodeFrom" "[I" ∈ TB := TB_in (List.mem_of_getElem? (i := 1003) (by decide +kernel)) rfl
theorem fl_X10_111 : FL RX10 111 8 43 := ⟨RX10, TX10, 52, rfl, by decide, tb_X10, lk_X10_111⟩
theorem lk_X10_114 : Cond.fieldLink RX10 114 RX10 "nodeTo" "[I" ∈ TB := TB_in (List.mem_of_getElem? (i := 1004) (by decide +kernel)) rfl
theorem fl_X10_114 : FL RX10 114 8 44 := ⟨RX10, TX10, 52, rfl, by decide, tb_X10, lk_X10_114⟩
theorem lk_X10_117 : Cond.fieldLink RX10 117 RX10 "nodeRaise" "[I" ∈ TB := TB_in (List.mem_of_getElem? (i := 1005) (by decide +kernel)) rfl
theorem fl_X10_117 : FL RX10 117 8 45 := ⟨RX10, TX10, 52, rfl, by decide, tb_X10, lk_X10_117⟩
theorem lk_X10_120 : Cond.fieldLink RX10 120 RX10 "nodeKind" "[I" ∈ TB := TB_in (List.mem_of_getElem? (i := 1006) (by decide +kernel)) rfl
theorem fl_X10_120 : FL RX10 120 8 46 := ⟨RX10, TX10, 52, rfl, by decide, tb_X10, lk_X10_120⟩
theorem lk_X10_123 : Cond.fieldLink RX10 123 RX10 "nodeDepth" "[I" ∈ TB := TB_in (List.mem_of_getElem? (i := 1007) (by decide +kernel)) rfl
theorem fl_X10_123 : FL RX10 123 8 47 := ⟨RX10, TX10, 52, rfl, by decide, tb_X10, lk_X10_123⟩
theorem ml_X10_314 : Cond.methodLink RX10 314 yX10_notes ∈ TB := TB_in (List.mem_of_getElem? (i := 1369) (by decide +kernel)) rfl
theorem cb_X10_314 : CB RX10 314 yX10_notes m_X10_notes 1 := ⟨cd_X10_notes, ml_X10_314, ini_X10, by decide +kernel⟩
theorem ml_X10_311 : Cond.methodLink RX10 311 yX10_nextCheck ∈ TB := TB_in (List.mem_of_getElem? (i := 1365) (by decide +kernel)) rfl
theorem cb_X10_311 : CB RX10 311 yX10_nextCheck m_X10_nextCheck 1 := ⟨cd_X10_nextCheck, ml_X10_311, ini_X10, by decide +kernel⟩
theorem ml_X10_317 : Cond.methodLink RX10 317 yX10_hunts ∈ TB := TB_in (List.mem_of_getElem? (i := 1361) (by decide +kernel)) rfl
theorem cb_X10_317 : CB RX10 317 yX10_hunts m_X10_hunts 1 := ⟨cd_X10_hunts, ml_X10_317, ini_X10, by decide +kernel⟩
theorem ml_X10_320 : Cond.methodLink RX10 320 yX10_within ∈ TB := TB_in (List.mem_of_getElem? (i := 1385) (by decide +kernel)) rfl
theorem cb_X10_320 : CB RX10 320 yX10_within m_X10_within 1 := ⟨cd_X10_within, ml_X10_320, ini_X10, by decide +kernel⟩
theorem ml_X10_323 : Cond.methodLink RX10 323 yX10_indexOf ∈ TB := TB_in (List.mem_of_getElem? (i := 1397) (by decide +kernel)) rfl
theorem cb_X10_323 : CB RX10 323 yX10_indexOf m_X10_indexOf 5 := ⟨cd_X10_indexOf, ml_X10_323, ini_X10, by decide +kernel⟩
theorem ml_X10_327 : Cond.methodLink RX10 327 yX10_manyIn ∈ TB := TB_in (List.mem_of_getElem? (i := 1401) (by decide +kernel)) rfl
theorem cb_X10_327 : CB RX10 327 yX10_manyIn m_X10_manyIn 1 := ⟨cd_X10_manyIn, ml_X10_327, ini_X10, by decide +kernel⟩
theorem lk_X10_330 : Cond.fieldLink RX10 330 RX10 "size" "I" ∈ TB := TB_in (List.mem_of_getElem? (i := 1010) (by decide +kernel)) rfl
theorem fl_X10_330 : FL RX10 330 8 50 := ⟨RX10, TX10, 52, rfl, by decide, tb_X10, lk_X10_330⟩
theorem fp_X10_330 : FP RX10 330 8 50 .int := ⟨RX10, TX10, 52, tyX10, rfl, by decide, tb_X10, lk_X10_330, tyX10_ok, nmX10, rfl, by decide +kernel⟩
theorem st_50_50 (a : Nat → Nat) (w : Wd) (v : Int32) : (fvs a w 50).set 50 (.int v) = fvs a (wdI w 50 50 v) 50 := rfl
theorem lk_X10_132 : Cond.fieldLink RX10 132 RX10 "text" "[I" ∈ TB := TB_in (List.mem_of_getElem? (i := 1011) (by decide +kernel)) rfl
theorem fl_X10_132 : FL RX10 132 8 51 := ⟨RX10, TX10, 52, rfl, by decide, tb_X10, lk_X10_132⟩
theorem ml_X10_333 : Cond.methodLink RX10 333 yX10_say ∈ TB := TB_in (List.mem_of_getElem? (i := 1409) (by decide +kernel)) rfl
theorem cb_X10_333 : CB RX10 333 yX10_say m_X10_say 1 := ⟨cd_X10_say, ml_X10_333, ini_X10, by decide +kernel⟩
theorem ml_X10_336 : Cond.methodLink RX10 336 yX10_sayField ∈ TB := TB_in (List.mem_of_getElem? (i := 1413) (by decide +kernel)) rfl
theorem cb_X10_336 : CB RX10 336 yX10_sayField m_X10_sayField 1 := ⟨cd_X10_sayField, ml_X10_336, ini_X10, by decide +kernel⟩
theorem ml_X10_339 : Cond.methodLink RX10 339 yX10_fieldAt ∈ TB := TB_in (List.mem_of_getElem? (i := 1437) (by decide +kernel)) rfl
theorem cb_X10_339 : CB RX10 339 yX10_fieldAt m_X10_fieldAt 1 := ⟨cd_X10_fieldAt, ml_X10_339, ini_X10, by decide +kernel⟩
theorem k_X10_342 : Cond.constantLong RX10 342 (49 : Int64) ∈ TB := TB_in (List.mem_of_getElem? (i := 1441) (by decide +kernel)) rfl
theorem k_X10_344 : Cond.constantLong RX10 344 (55 : Int64) ∈ TB := TB_in (List.mem_of_getElem? (i := 1442) (by decide +kernel)) rfl
theorem ml_X10_346 : Cond.methodLink RX10 346 yX10_told ∈ TB := TB_in (List.mem_of_getElem? (i := 1433) (by decide +kernel)) rfl
theorem cb_X10_346 : CB RX10 346 yX10_told m_X10_told 2 := ⟨cd_X10_told, ml_X10_346, ini_X10, by decide +kernel⟩
theorem k_X10_349 : Cond.constantLong RX10 349 (17 : Int64) ∈ TB := TB_in (List.mem_of_getElem? (i := 1447) (by decide +kernel)) rfl
theorem k_X10_351 : Cond.constantLong RX10 351 (31 : Int64) ∈ TB := TB_in (List.mem_of_getElem? (i := 1448) (by decide +kernel)) rfl
theorem ml_X10_353 : Cond.methodLink RX10 353 yX10_has ∈ TB := TB_in (List.mem_of_getElem? (i := 1449) (by decide +kernel)) rfl
theorem cb_X10_353 : CB RX10 353 yX10_has m_X10_has 2 := ⟨cd_X10_has, ml_X10_353, ini_X10, by decide +kernel⟩
theorem ml_X10_356 : Cond.methodLink RX10 356 yX10_play ∈ TB := TB_in (List.mem_of_getElem? (i := 1450) (by decide +kernel)) rfl
theorem cb_X10_356 : CB RX10 356 yX10_play m_X10_play 1 := ⟨cd_X10_play, ml_X10_356, ini_X10, by decide +kernel⟩
