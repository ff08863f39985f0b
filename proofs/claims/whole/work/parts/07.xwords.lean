abbrev m_X0_begin : Mt := (RX0, cX0_begin, 1, none, 1, "begin")
set_option maxRecDepth 20000 in
theorem cd_X0_begin : Cond.code yX0_begin cX0_begin 1 none ∈ TB := TB_in (List.mem_of_getElem? (i := 787) rfl) rfl
theorem im_X0_begin : Cond.instanceMethod yX0_begin ∈ TB := TB_in (List.mem_of_getElem? (i := 785) (by decide +kernel)) rfl
theorem se_X0_begin : Cond.selects RX0 yX0_begin yX0_begin ∈ TB := TB_in (List.mem_of_getElem? (i := 786) (by decide +kernel)) rfl
abbrev m_X0_fits : Mt := (RX0, cX0_fits, 1, (some .boolean), 1, "fits")
set_option maxRecDepth 20000 in
theorem cd_X0_fits : Cond.code yX0_fits cX0_fits 1 (some .boolean) ∈ TB := TB_in (List.mem_of_getElem? (i := 814) rfl) rfl
theorem im_X0_fits : Cond.instanceMethod yX0_fits ∈ TB := TB_in (List.mem_of_getElem? (i := 812) (by decide +kernel)) rfl
theorem se_X0_fits : Cond.selects RX0 yX0_fits yX0_fits ∈ TB := TB_in (List.mem_of_getElem? (i := 813) (by decide +kernel)) rfl
abbrev m_X2_sideOf : Mt := (RX2, cX2_sideOf, 1, (some .int), 1, "sideOf")
set_option maxRecDepth 20000 in
theorem cd_X2_sideOf : Cond.code yX2_sideOf cX2_sideOf 1 (some .int) ∈ TB := TB_in (List.mem_of_getElem? (i := 503) rfl) rfl
theorem sx_X2_sideOf : Cond.static yX2_sideOf ∈ TB := TB_in (List.mem_of_getElem? (i := 502) (by decide +kernel)) rfl
abbrev m_X2_typeOf : Mt := (RX2, cX2_typeOf, 1, (some .int), 1, "typeOf")
set_option maxRecDepth 20000 in
theorem cd_X2_typeOf : Cond.code yX2_typeOf cX2_typeOf 1 (some .int) ∈ TB := TB_in (List.mem_of_getElem? (i := 560) rfl) rfl
theorem sx_X2_typeOf : Cond.static yX2_typeOf ∈ TB := TB_in (List.mem_of_getElem? (i := 559) (by decide +kernel)) rfl
abbrev m_X6_reach : Mt := (RX6, cX6_reach, 11, (some .int), 2, "reach")
set_option maxRecDepth 20000 in
theorem cd_X6_reach : Cond.code yX6_reach cX6_reach 11 (some .int) ∈ TB := TB_in (List.mem_of_getElem? (i := 557) rfl) rfl
theorem im_X6_reach : Cond.instanceMethod yX6_reach ∈ TB := TB_in (List.mem_of_getElem? (i := 555) (by decide +kernel)) rfl
theorem se_X6_reach : Cond.selects RX6 yX6_reach yX6_reach ∈ TB := TB_in (List.mem_of_getElem? (i := 556) (by decide +kernel)) rfl
abbrev m_X2_isRaised : Mt := (RX2, cX2_isRaised, 1, (some .boolean), 1, "isRaised")
set_option maxRecDepth 20000 in
theorem cd_X2_isRaised : Cond.code yX2_isRaised cX2_isRaised 1 (some .boolean) ∈ TB := TB_in (List.mem_of_getElem? (i := 489) rfl) rfl
theorem sx_X2_isRaised : Cond.static yX2_isRaised ∈ TB := TB_in (List.mem_of_getElem? (i := 488) (by decide +kernel)) rfl
abbrev m_X8_goesOn : Mt := (RX8, cX8_goesOn, 3, (some .boolean), 1, "goesOn")
set_option maxRecDepth 20000 in
theorem cd_X8_goesOn : Cond.code yX8_goesOn cX8_goesOn 3 (some .boolean) ∈ TB := TB_in (List.mem_of_getElem? (i := 569) rfl) rfl
theorem im_X8_goesOn : Cond.instanceMethod yX8_goesOn ∈ TB := TB_in (List.mem_of_getElem? (i := 567) (by decide +kernel)) rfl
theorem se_X8_goesOn : Cond.selects RX8 yX8_goesOn yX8_goesOn ∈ TB := TB_in (List.mem_of_getElem? (i := 568) (by decide +kernel)) rfl
abbrev m_X8_canBeRaised : Mt := (RX8, cX8_canBeRaised, 6, (some .boolean), 1, "canBeRaised")
set_option maxRecDepth 20000 in
theorem cd_X8_canBeRaised : Cond.code yX8_canBeRaised cX8_canBeRaised 6 (some .boolean) ∈ TB := TB_in (List.mem_of_getElem? (i := 573) rfl) rfl
theorem im_X8_canBeRaised : Cond.instanceMethod yX8_canBeRaised ∈ TB := TB_in (List.mem_of_getElem? (i := 571) (by decide +kernel)) rfl
theorem se_X8_canBeRaised : Cond.selects RX8 yX8_canBeRaised yX8_canBeRaised ∈ TB := TB_in (List.mem_of_getElem? (i := 572) (by decide +kernel)) rfl
abbrev m_X5_addGoings : Mt := (RX5, cX5_addGoings, 11, (some .int), 2, "addGoings")
set_option maxRecDepth 20000 in
theorem cd_X5_addGoings : Cond.code yX5_addGoings cX5_addGoings 11 (some .int) ∈ TB := TB_in (List.mem_of_getElem? (i := 564) rfl) rfl
theorem im_X5_addGoings : Cond.instanceMethod yX5_addGoings ∈ TB := TB_in (List.mem_of_getElem? (i := 563) (by decide +kernel)) rfl
theorem se_X5_addGoings : Cond.selects RX5 yX5_addGoings yX5_addGoings ∈ TB := TB_in (List.mem_of_getElem? (i := 9) (by decide +kernel)) rfl
abbrev m_X2_itemOf : Mt := (RX2, cX2_itemOf, 2, (some .int), 1, "itemOf")
set_option maxRecDepth 20000 in
theorem cd_X2_itemOf : Cond.code yX2_itemOf cX2_itemOf 2 (some .int) ∈ TB := TB_in (List.mem_of_getElem? (i := 580) rfl) rfl
theorem sx_X2_itemOf : Cond.static yX2_itemOf ∈ TB := TB_in (List.mem_of_getElem? (i := 579) (by decide +kernel)) rfl
abbrev m_X5_columnsShutTo : Mt := (RX5, cX5_columnsShutTo, 5, (some .int), 1, "columnsShutTo")
set_option maxRecDepth 20000 in
theorem cd_X5_columnsShutTo : Cond.code yX5_columnsShutTo cX5_columnsShutTo 5 (some .int) ∈ TB := TB_in (List.mem_of_getElem? (i := 584) rfl) rfl
theorem im_X5_columnsShutTo : Cond.instanceMethod yX5_columnsShutTo ∈ TB := TB_in (List.mem_of_getElem? (i := 583) (by decide +kernel)) rfl
theorem se_X5_columnsShutTo : Cond.selects RX5 yX5_columnsShutTo yX5_columnsShutTo ∈ TB := TB_in (List.mem_of_getElem? (i := 11) (by decide +kernel)) rfl
abbrev m_X3_setting : Mt := (RX3, cX3_setting, 2, (some .int), 1, "setting")
set_option maxRecDepth 20000 in
theorem cd_X3_setting : Cond.code yX3_setting cX3_setting 2 (some .int) ∈ TB := TB_in (List.mem_of_getElem? (i := 587) rfl) rfl
theorem sx_X3_setting : Cond.static yX3_setting ∈ TB := TB_in (List.mem_of_getElem? (i := 586) (by decide +kernel)) rfl
abbrev m_X5_addSettings : Mt := (RX5, cX5_addSettings, 9, (some .int), 2, "addSettings")
set_option maxRecDepth 20000 in
theorem cd_X5_addSettings : Cond.code yX5_addSettings cX5_addSettings 9 (some .int) ∈ TB := TB_in (List.mem_of_getElem? (i := 577) rfl) rfl
theorem im_X5_addSettings : Cond.instanceMethod yX5_addSettings ∈ TB := TB_in (List.mem_of_getElem? (i := 576) (by decide +kernel)) rfl
theorem se_X5_addSettings : Cond.selects RX5 yX5_addSettings yX5_addSettings ∈ TB := TB_in (List.mem_of_getElem? (i := 10) (by decide +kernel)) rfl
abbrev m_X5_fill : Mt := (RX5, cX5_fill, 5, (some .int), 3, "fill")
set_option maxRecDepth 20000 in
theorem cd_X5_fill : Cond.code yX5_fill cX5_fill 5 (some .int) ∈ TB := TB_in (List.mem_of_getElem? (i := 552) rfl) rfl
theorem im_X5_fill : Cond.instanceMethod yX5_fill ∈ TB := TB_in (List.mem_of_getElem? (i := 550) (by decide +kernel)) rfl
theorem se_X5_fill : Cond.selects RX5 yX5_fill yX5_fill ∈ TB := TB_in (List.mem_of_getElem? (i := 551) (by decide +kernel)) rfl
abbrev m_X5_startOf : Mt := (RX5, cX5_startOf, 2, (some .int), 1, "startOf")
set_option maxRecDepth 20000 in
theorem cd_X5_startOf : Cond.code yX5_startOf cX5_startOf 2 (some .int) ∈ TB := TB_in (List.mem_of_getElem? (i := 607) rfl) rfl
theorem im_X5_startOf : Cond.instanceMethod yX5_startOf ∈ TB := TB_in (List.mem_of_getElem? (i := 605) (by decide +kernel)) rfl
theorem se_X5_startOf : Cond.selects RX5 yX5_startOf yX5_startOf ∈ TB := TB_in (List.mem_of_getElem? (i := 606) (by decide +kernel)) rfl
abbrev m_X2_kindOf : Mt := (RX2, cX2_kindOf, 1, (some .int), 1, "kindOf")
set_option maxRecDepth 20000 in
theorem cd_X2_kindOf : Cond.code yX2_kindOf cX2_kindOf 1 (some .int) ∈ TB := TB_in (List.mem_of_getElem? (i := 492) rfl) rfl
theorem sx_X2_kindOf : Cond.static yX2_kindOf ∈ TB := TB_in (List.mem_of_getElem? (i := 491) (by decide +kernel)) rfl
abbrev m_X6_apply : Mt := (RX6, cX6_apply, 6, none, 2, "apply")
set_option maxRecDepth 20000 in
theorem cd_X6_apply : Cond.code yX6_apply cX6_apply 6 none ∈ TB := TB_in (List.mem_of_getElem? (i := 598) rfl) rfl
theorem im_X6_apply : Cond.instanceMethod yX6_apply ∈ TB := TB_in (List.mem_of_getElem? (i := 596) (by decide +kernel)) rfl
theorem se_X6_apply : Cond.selects RX6 yX6_apply yX6_apply ∈ TB := TB_in (List.mem_of_getElem? (i := 597) (by decide +kernel)) rfl
abbrev m_X6_attacked : Mt := (RX6, cX6_attacked, 9, (some .boolean), 2, "attacked")
set_option maxRecDepth 20000 in
theorem cd_X6_attacked : Cond.code yX6_attacked cX6_attacked 9 (some .boolean) ∈ TB := TB_in (List.mem_of_getElem? (i := 511) rfl) rfl
theorem im_X6_attacked : Cond.instanceMethod yX6_attacked ∈ TB := TB_in (List.mem_of_getElem? (i := 509) (by decide +kernel)) rfl
theorem se_X6_attacked : Cond.selects RX6 yX6_attacked yX6_attacked ∈ TB := TB_in (List.mem_of_getElem? (i := 510) (by decide +kernel)) rfl
abbrev m_X6_inCheck : Mt := (RX6, cX6_inCheck, 2, (some .boolean), 3, "inCheck")
set_option maxRecDepth 20000 in
theorem cd_X6_inCheck : Cond.code yX6_inCheck cX6_inCheck 2 (some .boolean) ∈ TB := TB_in (List.mem_of_getElem? (i := 507) rfl) rfl
theorem im_X6_inCheck : Cond.instanceMethod yX6_inCheck ∈ TB := TB_in (List.mem_of_getElem? (i := 505) (by decide +kernel)) rfl
theorem se_X6_inCheck : Cond.selects RX6 yX6_inCheck yX6_inCheck ∈ TB := TB_in (List.mem_of_getElem? (i := 506) (by decide +kernel)) rfl
abbrev m_X3_isSetting : Mt := (RX3, cX3_isSetting, 1, (some .boolean), 1, "isSetting")
set_option maxRecDepth 20000 in
theorem cd_X3_isSetting : Cond.code yX3_isSetting cX3_isSetting 1 (some .boolean) ∈ TB := TB_in (List.mem_of_getElem? (i := 590) rfl) rfl
theorem sx_X3_isSetting : Cond.static yX3_isSetting ∈ TB := TB_in (List.mem_of_getElem? (i := 589) (by decide +kernel)) rfl
abbrev m_X5_hasSecondMark : Mt := (RX5, cX5_hasSecondMark, 2, (some .boolean), 1, "hasSecondMark")
set_option maxRecDepth 20000 in
theorem cd_X5_hasSecondMark : Cond.code yX5_hasSecondMark cX5_hasSecondMark 2 (some .boolean) ∈ TB := TB_in (List.mem_of_getElem? (i := 594) rfl) rfl
theorem im_X5_hasSecondMark : Cond.instanceMethod yX5_hasSecondMark ∈ TB := TB_in (List.mem_of_getElem? (i := 593) (by decide +kernel)) rfl
theorem se_X5_hasSecondMark : Cond.selects RX5 yX5_hasSecondMark yX5_hasSecondMark ∈ TB := TB_in (List.mem_of_getElem? (i := 12) (by decide +kernel)) rfl
abbrev m_X6_revert : Mt := (RX6, cX6_revert, 6, none, 2, "revert")
set_option maxRecDepth 20000 in
theorem cd_X6_revert : Cond.code yX6_revert cX6_revert 6 none ∈ TB := TB_in (List.mem_of_getElem? (i := 611) rfl) rfl
theorem im_X6_revert : Cond.instanceMethod yX6_revert ∈ TB := TB_in (List.mem_of_getElem? (i := 609) (by decide +kernel)) rfl
theorem se_X6_revert : Cond.selects RX6 yX6_revert yX6_revert ∈ TB := TB_in (List.mem_of_getElem? (i := 610) (by decide +kernel)) rfl
abbrev m_X5_isForbiddenMate : Mt := (RX5, cX5_isForbiddenMate, 7, (some .boolean), 4, "isForbiddenMate")
set_option maxRecDepth 20000 in
theorem cd_X5_isForbiddenMate : Cond.code yX5_isForbiddenMate cX5_isForbiddenMate 7 (some .boolean) ∈ TB := TB_in (List.mem_of_getElem? (i := 603) rfl) rfl
theorem im_X5_isForbiddenMate : Cond.instanceMethod yX5_isForbiddenMate ∈ TB := TB_in (List.mem_of_getElem? (i := 602) (by decide +kernel)) rfl
theorem se_X5_isForbiddenMate : Cond.selects RX5 yX5_isForbiddenMate yX5_isForbiddenMate ∈ TB := TB_in (List.mem_of_getElem? (i := 13) (by decide +kernel)) rfl
abbrev m_X5_holds : Mt := (RX5, cX5_holds, 2, (some .boolean), 5, "holds")
set_option maxRecDepth 20000 in
theorem cd_X5_holds : Cond.code yX5_holds cX5_holds 2 (some .boolean) ∈ TB := TB_in (List.mem_of_getElem? (i := 799) rfl) rfl
theorem im_X5_holds : Cond.instanceMethod yX5_holds ∈ TB := TB_in (List.mem_of_getElem? (i := 797) (by decide +kernel)) rfl
theorem se_X5_holds : Cond.selects RX5 yX5_holds yX5_holds ∈ TB := TB_in (List.mem_of_getElem? (i := 798) (by decide +kernel)) rfl
abbrev m_X0_addNode : Mt := (RX0, cX0_addNode, 3, (some .int), 1, "addNode")
set_option maxRecDepth 20000 in
theorem cd_X0_addNode : Cond.code yX0_addNode cX0_addNode 3 (some .int) ∈ TB := TB_in (List.mem_of_getElem? (i := 807) rfl) rfl
theorem im_X0_addNode : Cond.instanceMethod yX0_addNode ∈ TB := TB_in (List.mem_of_getElem? (i := 806) (by decide +kernel)) rfl
theorem se_X0_addNode : Cond.selects RX0 yX0_addNode yX0_addNode ∈ TB := TB_in (List.mem_of_getElem? (i := 25) (by decide +kernel)) rfl
abbrev m_X0_answersGo (d : Nat) : Mt := (RX0, cX0_answersGo, 11, (some .boolean), d, "answersGo")
abbrev BASE_X0_answersGo : Nat := 6
set_option maxRecDepth 20000 in
theorem cd_X0_answersGo : Cond.code yX0_answersGo cX0_answersGo 11 (some .boolean) ∈ TB := TB_in (List.mem_of_getElem? (i := 803) rfl) rfl
theorem im_X0_answersGo : Cond.instanceMethod yX0_answersGo ∈ TB := TB_in (List.mem_of_getElem? (i := 802) (by decide +kernel)) rfl
theorem se_X0_answersGo : Cond.selects RX0 yX0_answersGo yX0_answersGo ∈ TB := TB_in (List.mem_of_getElem? (i := 24) (by decide +kernel)) rfl
abbrev m_X0_hunterGoes (d : Nat) : Mt := (RX0, cX0_hunterGoes, 8, (some .boolean), d, "hunterGoes")
abbrev BASE_X0_hunterGoes : Nat := 6
set_option maxRecDepth 20000 in
theorem cd_X0_hunterGoes : Cond.code yX0_hunterGoes cX0_hunterGoes 8 (some .boolean) ∈ TB := TB_in (List.mem_of_getElem? (i := 791) rfl) rfl
theorem im_X0_hunterGoes : Cond.instanceMethod yX0_hunterGoes ∈ TB := TB_in (List.mem_of_getElem? (i := 790) (by decide +kernel)) rfl
theorem se_X0_hunterGoes : Cond.selects RX0 yX0_hunterGoes yX0_hunterGoes ∈ TB := TB_in (List.mem_of_getElem? (i := 23) (by decide +kernel)) rfl
abbrev m_X0_depthOf : Mt := (RX0, cX0_depthOf, 4, (some .int), 1, "depthOf")
set_option maxRecDepth 20000 in
theorem cd_X0_depthOf : Cond.code yX0_depthOf cX0_depthOf 4 (some .int) ∈ TB := TB_in (List.mem_of_getElem? (i := 831) rfl) rfl
theorem im_X0_depthOf : Cond.instanceMethod yX0_depthOf ∈ TB := TB_in (List.mem_of_getElem? (i := 829) (by decide +kernel)) rfl
theorem se_X0_depthOf : Cond.selects RX0 yX0_depthOf yX0_depthOf ∈ TB := TB_in (List.mem_of_getElem? (i := 830) (by decide +kernel)) rfl
abbrev m_X5_faultOfSetting : Mt := (RX5, cX5_faultOfSetting, 4, (some .int), 2, "faultOfSetting")
set_option maxRecDepth 20000 in
theorem cd_X5_faultOfSetting : Cond.code yX5_faultOfSetting cX5_faultOfSetting 4 (some .int) ∈ TB := TB_in (List.mem_of_getElem? (i := 693) rfl) rfl
theorem im_X5_faultOfSetting : Cond.instanceMethod yX5_faultOfSetting ∈ TB := TB_in (List.mem_of_getElem? (i := 692) (by decide +kernel)) rfl
theorem se_X5_faultOfSetting : Cond.selects RX5 yX5_faultOfSetting yX5_faultOfSetting ∈ TB := TB_in (List.mem_of_getElem? (i := 16) (by decide +kernel)) rfl
abbrev m_X5_reaches : Mt := (RX5, cX5_reaches, 5, (some .boolean), 3, "reaches")
set_option maxRecDepth 20000 in
theorem cd_X5_reaches : Cond.code yX5_reaches cX5_reaches 5 (some .boolean) ∈ TB := TB_in (List.mem_of_getElem? (i := 701) rfl) rfl
theorem im_X5_reaches : Cond.instanceMethod yX5_reaches ∈ TB := TB_in (List.mem_of_getElem? (i := 700) (by decide +kernel)) rfl
theorem se_X5_reaches : Cond.selects RX5 yX5_reaches yX5_reaches ∈ TB := TB_in (List.mem_of_getElem? (i := 18) (by decide +kernel)) rfl
abbrev m_X3_raises : Mt := (RX3, cX3_raises, 1, (some .boolean), 1, "raises")
set_option maxRecDepth 20000 in
theorem cd_X3_raises : Cond.code yX3_raises cX3_raises 1 (some .boolean) ∈ TB := TB_in (List.mem_of_getElem? (i := 665) rfl) rfl
theorem sx_X3_raises : Cond.static yX3_raises ∈ TB := TB_in (List.mem_of_getElem? (i := 664) (by decide +kernel)) rfl
abbrev m_X5_faultOfGoing : Mt := (RX5, cX5_faultOfGoing, 6, (some .int), 4, "faultOfGoing")
set_option maxRecDepth 20000 in
theorem cd_X5_faultOfGoing : Cond.code yX5_faultOfGoing cX5_faultOfGoing 6 (some .int) ∈ TB := TB_in (List.mem_of_getElem? (i := 697) rfl) rfl
theorem im_X5_faultOfGoing : Cond.instanceMethod yX5_faultOfGoing ∈ TB := TB_in (List.mem_of_getElem? (i := 696) (by decide +kernel)) rfl
theorem se_X5_faultOfGoing : Cond.selects RX5 yX5_faultOfGoing yX5_faultOfGoing ∈ TB := TB_in (List.mem_of_getElem? (i := 17) (by decide +kernel)) rfl
abbrev m_X3_toOf : Mt := (RX3, cX3_toOf, 1, (some .int), 1, "toOf")
set_option maxRecDepth 20000 in
theorem cd_X3_toOf : Cond.code yX3_toOf cX3_toOf 1 (some .int) ∈ TB := TB_in (List.mem_of_getElem? (i := 662) rfl) rfl
theorem sx_X3_toOf : Cond.static yX3_toOf ∈ TB := TB_in (List.mem_of_getElem? (i := 661) (by decide +kernel)) rfl
abbrev m_X6_withTaken : Mt := (RX6, cX6_withTaken, 2, (some .int), 2, "withTaken")
set_option maxRecDepth 20000 in
theorem cd_X6_withTaken : Cond.code yX6_withTaken cX6_withTaken 2 (some .int) ∈ TB := TB_in (List.mem_of_getElem? (i := 706) rfl) rfl
theorem im_X6_withTaken : Cond.instanceMethod yX6_withTaken ∈ TB := TB_in (List.mem_of_getElem? (i := 704) (by decide +kernel)) rfl
theorem se_X6_withTaken : Cond.selects RX6 yX6_withTaken yX6_withTaken ∈ TB := TB_in (List.mem_of_getElem? (i := 705) (by decide +kernel)) rfl
abbrev m_X5_faultOf : Mt := (RX5, cX5_faultOf, 5, (some .int), 5, "faultOf")
set_option maxRecDepth 20000 in
theorem cd_X5_faultOf : Cond.code yX5_faultOf cX5_faultOf 5 (some .int) ∈ TB := TB_in (List.mem_of_getElem? (i := 689) rfl) rfl
theorem im_X5_faultOf : Cond.instanceMethod yX5_faultOf ∈ TB := TB_in (List.mem_of_getElem? (i := 687) (by decide +kernel)) rfl
theorem se_X5_faultOf : Cond.selects RX5 yX5_faultOf yX5_faultOf ∈ TB := TB_in (List.mem_of_getElem? (i := 688) (by decide +kernel)) rfl
abbrev m_X5_listLawful : Mt := (RX5, cX5_listLawful, 9, (some .int), 5, "listLawful")
set_option maxRecDepth 20000 in
theorem cd_X5_listLawful : Cond.code yX5_listLawful cX5_listLawful 9 (some .int) ∈ TB := TB_in (List.mem_of_getElem? (i := 547) rfl) rfl
theorem im_X5_listLawful : Cond.instanceMethod yX5_listLawful ∈ TB := TB_in (List.mem_of_getElem? (i := 545) (by decide +kernel)) rfl
theorem se_X5_listLawful : Cond.selects RX5 yX5_listLawful yX5_listLawful ∈ TB := TB_in (List.mem_of_getElem? (i := 546) (by decide +kernel)) rfl
abbrev m_X0_answersIn : Mt := (RX0, cX0_answersIn, 5, (some .int), 1, "answersIn")
set_option maxRecDepth 20000 in
theorem cd_X0_answersIn : Cond.code yX0_answersIn cX0_answersIn 5 (some .int) ∈ TB := TB_in (List.mem_of_getElem? (i := 854) rfl) rfl
theorem im_X0_answersIn : Cond.instanceMethod yX0_answersIn ∈ TB := TB_in (List.mem_of_getElem? (i := 853) (by decide +kernel)) rfl
theorem se_X0_answersIn : Cond.selects RX0 yX0_answersIn yX0_answersIn ∈ TB := TB_in (List.mem_of_getElem? (i := 28) (by decide +kernel)) rfl
abbrev m_X5_listed : Mt := (RX5, cX5_listed, 3, (some .int), 1, "listed")
set_option maxRecDepth 20000 in
theorem cd_X5_listed : Cond.code yX5_listed cX5_listed 3 (some .int) ∈ TB := TB_in (List.mem_of_getElem? (i := 655) rfl) rfl
theorem im_X5_listed : Cond.instanceMethod yX5_listed ∈ TB := TB_in (List.mem_of_getElem? (i := 653) (by decide +kernel)) rfl
theorem se_X5_listed : Cond.selects RX5 yX5_listed yX5_listed ∈ TB := TB_in (List.mem_of_getElem? (i := 654) (by decide +kernel)) rfl
abbrev m_X0_faultInAnswers (d : Nat) : Mt := (RX0, cX0_faultInAnswers, 8, (some .int), d, "faultInAnswers")
abbrev BASE_X0_faultInAnswers : Nat := 6
set_option maxRecDepth 20000 in
theorem cd_X0_faultInAnswers : Cond.code yX0_faultInAnswers cX0_faultInAnswers 8 (some .int) ∈ TB := TB_in (List.mem_of_getElem? (i := 849) rfl) rfl
theorem im_X0_faultInAnswers : Cond.instanceMethod yX0_faultInAnswers ∈ TB := TB_in (List.mem_of_getElem? (i := 848) (by decide +kernel)) rfl
theorem se_X0_faultInAnswers : Cond.selects RX0 yX0_faultInAnswers yX0_faultInAnswers ∈ TB := TB_in (List.mem_of_getElem? (i := 27) (by decide +kernel)) rfl
abbrev m_X0_firstFault (d : Nat) : Mt := (RX0, cX0_firstFault, 6, (some .int), d, "firstFault")
abbrev BASE_X0_firstFault : Nat := 6
set_option maxRecDepth 20000 in
theorem cd_X0_firstFault : Cond.code yX0_firstFault cX0_firstFault 6 (some .int) ∈ TB := TB_in (List.mem_of_getElem? (i := 843) rfl) rfl
theorem im_X0_firstFault : Cond.instanceMethod yX0_firstFault ∈ TB := TB_in (List.mem_of_getElem? (i := 842) (by decide +kernel)) rfl
theorem se_X0_firstFault : Cond.selects RX0 yX0_firstFault yX0_firstFault ∈ TB := TB_in (List.mem_of_getElem? (i := 26) (by decide +kernel)) rfl
abbrev m_X1_isForm : Mt := (RX1, cX1_isForm, 1, (some .boolean), 1, "isForm")
set_option maxRecDepth 20000 in
theorem cd_X1_isForm : Cond.code yX1_isForm cX1_isForm 1 (some .boolean) ∈ TB := TB_in (List.mem_of_getElem? (i := 416) rfl) rfl
theorem sx_X1_isForm : Cond.static yX1_isForm ∈ TB := TB_in (List.mem_of_getElem? (i := 415) (by decide +kernel)) rfl
abbrev m_X1_narrowed : Mt := (RX1, cX1_narrowed, 2, (some .int), 1, "narrowed")
set_option maxRecDepth 20000 in
theorem cd_X1_narrowed : Cond.code yX1_narrowed cX1_narrowed 2 (some .int) ∈ TB := TB_in (List.mem_of_getElem? (i := 444) rfl) rfl
theorem sx_X1_narrowed : Cond.static yX1_narrowed ∈ TB := TB_in (List.mem_of_getElem? (i := 443) (by decide +kernel)) rfl
abbrev m_X1_isLine : Mt := (RX1, cX1_isLine, 2, (some .boolean), 1, "isLine")
set_option maxRecDepth 20000 in
theorem cd_X1_isLine : Cond.code yX1_isLine cX1_isLine 2 (some .boolean) ∈ TB := TB_in (List.mem_of_getElem? (i := 413) rfl) rfl
theorem im_X1_isLine : Cond.instanceMethod yX1_isLine ∈ TB := TB_in (List.mem_of_getElem? (i := 411) (by decide +kernel)) rfl
theorem se_X1_isLine : Cond.selects RX1 yX1_isLine yX1_isLine ∈ TB := TB_in (List.mem_of_getElem? (i := 412) (by decide +kernel)) rfl
abbrev m_X1_isLost : Mt := (RX1, cX1_isLost, 2, (some .boolean), 1, "isLost")
set_option maxRecDepth 20000 in
theorem cd_X1_isLost : Cond.code yX1_isLost cX1_isLost 2 (some .boolean) ∈ TB := TB_in (List.mem_of_getElem? (i := 432) rfl) rfl
theorem im_X1_isLost : Cond.instanceMethod yX1_isLost ∈ TB := TB_in (List.mem_of_getElem? (i := 430) (by decide +kernel)) rfl
theorem se_X1_isLost : Cond.selects RX1 yX1_isLost yX1_isLost ∈ TB := TB_in (List.mem_of_getElem? (i := 431) (by decide +kernel)) rfl
abbrev m_X1_renew : Mt := (RX1, cX1_renew, 5, none, 1, "renew")
set_option maxRecDepth 20000 in
theorem cd_X1_renew : Cond.code yX1_renew cX1_renew 5 none ∈ TB := TB_in (List.mem_of_getElem? (i := 424) rfl) rfl
theorem im_X1_renew : Cond.instanceMethod yX1_renew ∈ TB := TB_in (List.mem_of_getElem? (i := 422) (by decide +kernel)) rfl
theorem se_X1_renew : Cond.selects RX1 yX1_renew yX1_renew ∈ TB := TB_in (List.mem_of_getElem? (i := 423) (by decide +kernel)) rfl
abbrev m_X1_faultOfItem : Mt := (RX1, cX1_faultOfItem, 4, (some .int), 2, "faultOfItem")
set_option maxRecDepth 20000 in
theorem cd_X1_faultOfItem : Cond.code yX1_faultOfItem cX1_faultOfItem 4 (some .int) ∈ TB := TB_in (List.mem_of_getElem? (i := 440) rfl) rfl
theorem im_X1_faultOfItem : Cond.instanceMethod yX1_faultOfItem ∈ TB := TB_in (List.mem_of_getElem? (i := 438) (by decide +kernel)) rfl
theorem se_X1_faultOfItem : Cond.selects RX1 yX1_faultOfItem yX1_faultOfItem ∈ TB := TB_in (List.mem_of_getElem? (i := 439) (by decide +kernel)) rfl
abbrev m_X1_hasItems : Mt := (RX1, cX1_hasItems, 4, (some .boolean), 1, "hasItems")
set_option maxRecDepth 20000 in
theorem cd_X1_hasItems : Cond.code yX1_hasItems cX1_hasItems 4 (some .boolean) ∈ TB := TB_in (List.mem_of_getElem? (i := 457) rfl) rfl
theorem im_X1_hasItems : Cond.instanceMethod yX1_hasItems ∈ TB := TB_in (List.mem_of_getElem? (i := 455) (by decide +kernel)) rfl
theorem se_X1_hasItems : Cond.selects RX1 yX1_hasItems yX1_hasItems ∈ TB := TB_in (List.mem_of_getElem? (i := 456) (by decide +kernel)) rfl
abbrev m_X1_someIsTooShort : Mt := (RX1, cX1_someIsTooShort, 2, (some .boolean), 2, "someIsTooShort")
set_option maxRecDepth 20000 in
theorem cd_X1_someIsTooShort : Cond.code yX1_someIsTooShort cX1_someIsTooShort 2 (some .boolean) ∈ TB := TB_in (List.mem_of_getElem? (i := 478) rfl) rfl
theorem im_X1_someIsTooShort : Cond.instanceMethod yX1_someIsTooShort ∈ TB := TB_in (List.mem_of_getElem? (i := 476) (by decide +kernel)) rfl
theorem se_X1_someIsTooShort : Cond.selects RX1 yX1_someIsTooShort yX1_someIsTooShort ∈ TB := TB_in (List.mem_of_getElem? (i := 477) (by decide +kernel)) rfl
abbrev m_X1_told : Mt := (RX1, cX1_told, 3, (some .int), 2, "told")
set_option maxRecDepth 20000 in
theorem cd_X1_told : Cond.code yX1_told cX1_told 3 (some .int) ∈ TB := TB_in (List.mem_of_getElem? (i := 486) rfl) rfl
theorem im_X1_told : Cond.instanceMethod yX1_told ∈ TB := TB_in (List.mem_of_getElem? (i := 484) (by decide +kernel)) rfl
theorem se_X1_told : Cond.selects RX1 yX1_told yX1_told ∈ TB := TB_in (List.mem_of_getElem? (i := 485) (by decide +kernel)) rfl
abbrev m_X3_going : Mt := (RX3, cX3_going, 3, (some .int), 1, "going")
set_option maxRecDepth 20000 in
theorem cd_X3_going : Cond.code yX3_going cX3_going 3 (some .int) ∈ TB := TB_in (List.mem_of_getElem? (i := 685) rfl) rfl
theorem sx_X3_going : Cond.static yX3_going ∈ TB := TB_in (List.mem_of_getElem? (i := 684) (by decide +kernel)) rfl
abbrev m_X3_fromOf : Mt := (RX3, cX3_fromOf, 1, (some .int), 2, "fromOf")
set_option maxRecDepth 20000 in
theorem cd_X3_fromOf : Cond.code yX3_fromOf cX3_fromOf 1 (some .int) ∈ TB := TB_in (List.mem_of_getElem? (i := 658) rfl) rfl
theorem sx_X3_fromOf : Cond.static yX3_fromOf ∈ TB := TB_in (List.mem_of_getElem? (i := 657) (by decide +kernel)) rfl
abbrev m_X3_setKindOf : Mt := (RX3, cX3_setKindOf, 1, (some .int), 2, "setKindOf")
set_option maxRecDepth 20000 in
theorem cd_X3_setKindOf : Cond.code yX3_setKindOf cX3_setKindOf 1 (some .int) ∈ TB := TB_in (List.mem_of_getElem? (i := 673) rfl) rfl
theorem sx_X3_setKindOf : Cond.static yX3_setKindOf ∈ TB := TB_in (List.mem_of_getElem? (i := 672) (by decide +kernel)) rfl
abbrev m_X3_takenKindOf : Mt := (RX3, cX3_takenKindOf, 2, (some .int), 2, "takenKindOf")
set_option maxRecDepth 20000 in
theorem cd_X3_takenKindOf : Cond.code yX3_takenKindOf cX3_takenKindOf 2 (some .int) ∈ TB := TB_in (List.mem_of_getElem? (i := 677) rfl) rfl
theorem sx_X3_takenKindOf : Cond.static yX3_takenKindOf ∈ TB := TB_in (List.mem_of_getElem? (i := 676) (by decide +kernel)) rfl
abbrev m_X4_packedFields : Mt := (RX4, cX4_packedFields, 6, (some .long), 1, "packedFields")
set_option maxRecDepth 20000 in
theorem cd_X4_packedFields : Cond.code yX4_packedFields cX4_packedFields 6 (some .long) ∈ TB := TB_in (List.mem_of_getElem? (i := 524) rfl) rfl
theorem im_X4_packedFields : Cond.instanceMethod yX4_packedFields ∈ TB := TB_in (List.mem_of_getElem? (i := 523) (by decide +kernel)) rfl
theorem se_X4_packedFields : Cond.selects RX4 yX4_packedFields yX4_packedFields ∈ TB := TB_in (List.mem_of_getElem? (i := 4) (by decide +kernel)) rfl
abbrev m_X4_packedHand : Mt := (RX4, cX4_packedHand, 5, (some .long), 1, "packedHand")
set_option maxRecDepth 20000 in
theorem cd_X4_packedHand : Cond.code yX4_packedHand cX4_packedHand 5 (some .long) ∈ TB := TB_in (List.mem_of_getElem? (i := 531) rfl) rfl
theorem im_X4_packedHand : Cond.instanceMethod yX4_packedHand ∈ TB := TB_in (List.mem_of_getElem? (i := 530) (by decide +kernel)) rfl
theorem se_X4_packedHand : Cond.selects RX4 yX4_packedHand yX4_packedHand ∈ TB := TB_in (List.mem_of_getElem? (i := 5) (by decide +kernel)) rfl
abbrev m_X4_isSameStand : Mt := (RX4, cX4_isSameStand, 4, (some .boolean), 1, "isSameStand")
set_option maxRecDepth 20000 in
theorem cd_X4_isSameStand : Cond.code yX4_isSameStand cX4_isSameStand 4 (some .boolean) ∈ TB := TB_in (List.mem_of_getElem? (i := 539) rfl) rfl
theorem im_X4_isSameStand : Cond.instanceMethod yX4_isSameStand ∈ TB := TB_in (List.mem_of_getElem? (i := 538) (by decide +kernel)) rfl
theorem se_X4_isSameStand : Cond.selects RX4 yX4_isSameStand yX4_isSameStand ∈ TB := TB_in (List.mem_of_getElem? (i := 7) (by decide +kernel)) rfl
abbrev m_X4_countTimes : Mt := (RX4, cX4_countTimes, 2, none, 2, "countTimes")
set_option maxRecDepth 20000 in
theorem cd_X4_countTimes : Cond.code yX4_countTimes cX4_countTimes 2 none ∈ TB := TB_in (List.mem_of_getElem? (i := 535) rfl) rfl
theorem im_X4_countTimes : Cond.instanceMethod yX4_countTimes ∈ TB := TB_in (List.mem_of_getElem? (i := 534) (by decide +kernel)) rfl
theorem se_X4_countTimes : Cond.selects RX4 yX4_countTimes yX4_countTimes ∈ TB := TB_in (List.mem_of_getElem? (i := 6) (by decide +kernel)) rfl
abbrev m_X4_keepStand : Mt := (RX4, cX4_keepStand, 3, none, 3, "keepStand")
set_option maxRecDepth 20000 in
theorem cd_X4_keepStand : Cond.code yX4_keepStand cX4_keepStand 3 none ∈ TB := TB_in (List.mem_of_getElem? (i := 520) rfl) rfl
theorem im_X4_keepStand : Cond.instanceMethod yX4_keepStand ∈ TB := TB_in (List.mem_of_getElem? (i := 519) (by decide +kernel)) rfl
theorem se_X4_keepStand : Cond.selects RX4 yX4_keepStand yX4_keepStand ∈ TB := TB_in (List.mem_of_getElem? (i := 3) (by decide +kernel)) rfl
abbrev m_X4_begin : Mt := (RX4, cX4_begin, 1, none, 4, "begin")
set_option maxRecDepth 20000 in
theorem cd_X4_begin : Cond.code yX4_begin cX4_begin 1 none ∈ TB := TB_in (List.mem_of_getElem? (i := 516) rfl) rfl
theorem im_X4_begin : Cond.instanceMethod yX4_begin ∈ TB := TB_in (List.mem_of_getElem? (i := 514) (by decide +kernel)) rfl
theorem se_X4_begin : Cond.selects RX4 yX4_begin yX4_begin ∈ TB := TB_in (List.mem_of_getElem? (i := 515) (by decide +kernel)) rfl
abbrev m_X4_repeat : Mt := (RX4, cX4_repeat, 1, none, 4, "repeat")
set_option maxRecDepth 20000 in
theorem cd_X4_repeat : Cond.code yX4_repeat cX4_repeat 1 none ∈ TB := TB_in (List.mem_of_getElem? (i := 747) rfl) rfl
theorem im_X4_repeat : Cond.instanceMethod yX4_repeat ∈ TB := TB_in (List.mem_of_getElem? (i := 745) (by decide +kernel)) rfl
theorem se_X4_repeat : Cond.selects RX4 yX4_repeat yX4_repeat ∈ TB := TB_in (List.mem_of_getElem? (i := 746) (by decide +kernel)) rfl
abbrev m_X4_advance : Mt := (RX4, cX4_advance, 2, none, 5, "advance")
set_option maxRecDepth 20000 in
theorem cd_X4_advance : Cond.code yX4_advance cX4_advance 2 none ∈ TB := TB_in (List.mem_of_getElem? (i := 743) rfl) rfl
theorem im_X4_advance : Cond.instanceMethod yX4_advance ∈ TB := TB_in (List.mem_of_getElem? (i := 741) (by decide +kernel)) rfl
theorem se_X4_advance : Cond.selects RX4 yX4_advance yX4_advance ∈ TB := TB_in (List.mem_of_getElem? (i := 742) (by decide +kernel)) rfl
abbrev m_X4_withdraw : Mt := (RX4, cX4_withdraw, 1, none, 3, "withdraw")
set_option maxRecDepth 20000 in
theorem cd_X4_withdraw : Cond.code yX4_withdraw cX4_withdraw 1 none ∈ TB := TB_in (List.mem_of_getElem? (i := 757) rfl) rfl
theorem im_X4_withdraw : Cond.instanceMethod yX4_withdraw ∈ TB := TB_in (List.mem_of_getElem? (i := 755) (by decide +kernel)) rfl
theorem se_X4_withdraw : Cond.selects RX4 yX4_withdraw yX4_withdraw ∈ TB := TB_in (List.mem_of_getElem? (i := 756) (by decide +kernel)) rfl
abbrev m_X4_leave : Mt := (RX4, cX4_leave, 2, none, 3, "leave")
set_option maxRecDepth 20000 in
theorem cd_X4_leave : Cond.code yX4_leave cX4_leave 2 none ∈ TB := TB_in (List.mem_of_getElem? (i := 906) rfl) rfl
theorem im_X4_leave : Cond.instanceMethod yX4_leave ∈ TB := TB_in (List.mem_of_getElem? (i := 904) (by decide +kernel)) rfl
theorem se_X4_leave : Cond.selects RX4 yX4_leave yX4_leave ∈ TB := TB_in (List.mem_of_getElem? (i := 905) (by decide +kernel)) rfl
abbrev m_X4_resume : Mt := (RX4, cX4_resume, 2, none, 3, "resume")
set_option maxRecDepth 20000 in
theorem cd_X4_resume : Cond.code yX4_resume cX4_resume 2 none ∈ TB := TB_in (List.mem_of_getElem? (i := 931) rfl) rfl
theorem im_X4_resume : Cond.instanceMethod yX4_resume ∈ TB := TB_in (List.mem_of_getElem? (i := 929) (by decide +kernel)) rfl
theorem se_X4_resume : Cond.selects RX4 yX4_resume yX4_resume ∈ TB := TB_in (List.mem_of_getElem? (i := 930) (by decide +kernel)) rfl
abbrev m_X4_onlyChecksOf : Mt := (RX4, cX4_onlyChecksOf, 4, (some .boolean), 1, "onlyChecksOf")
set_option maxRecDepth 20000 in
theorem cd_X4_onlyChecksOf : Cond.code yX4_onlyChecksOf cX4_onlyChecksOf 4 (some .boolean) ∈ TB := TB_in (List.mem_of_getElem? (i := 739) rfl) rfl
theorem im_X4_onlyChecksOf : Cond.instanceMethod yX4_onlyChecksOf ∈ TB := TB_in (List.mem_of_getElem? (i := 738) (by decide +kernel)) rfl
theorem se_X4_onlyChecksOf : Cond.selects RX4 yX4_onlyChecksOf yX4_onlyChecksOf ∈ TB := TB_in (List.mem_of_getElem? (i := 21) (by decide +kernel)) rfl
abbrev m_X4_ending : Mt := (RX4, cX4_ending, 1, (some .int), 2, "ending")
set_option maxRecDepth 20000 in
theorem cd_X4_ending : Cond.code yX4_ending cX4_ending 1 (some .int) ∈ TB := TB_in (List.mem_of_getElem? (i := 735) rfl) rfl
theorem im_X4_ending : Cond.instanceMethod yX4_ending ∈ TB := TB_in (List.mem_of_getElem? (i := 733) (by decide +kernel)) rfl
theorem se_X4_ending : Cond.selects RX4 yX4_ending yX4_ending ∈ TB := TB_in (List.mem_of_getElem? (i := 734) (by decide +kernel)) rfl
abbrev m_X4_isOpen : Mt := (RX4, cX4_isOpen, 1, (some .boolean), 3, "isOpen")
set_option maxRecDepth 20000 in
theorem cd_X4_isOpen : Cond.code yX4_isOpen cX4_isOpen 1 (some .boolean) ∈ TB := TB_in (List.mem_of_getElem? (i := 925) rfl) rfl
theorem im_X4_isOpen : Cond.instanceMethod yX4_isOpen ∈ TB := TB_in (List.mem_of_getElem? (i := 923) (by decide +kernel)) rfl
theorem se_X4_isOpen : Cond.selects RX4 yX4_isOpen yX4_isOpen ∈ TB := TB_in (List.mem_of_getElem? (i := 924) (by decide +kernel)) rfl
abbrev m_X4_latestGaveCheck : Mt := (RX4, cX4_latestGaveCheck, 1, (some .boolean), 1, "latestGaveCheck")
set_option maxRecDepth 20000 in
theorem cd_X4_latestGaveCheck : Cond.code yX4_latestGaveCheck cX4_latestGaveCheck 1 (some .boolean) ∈ TB := TB_in (List.mem_of_getElem? (i := 775) rfl) rfl
theorem im_X4_latestGaveCheck : Cond.instanceMethod yX4_latestGaveCheck ∈ TB := TB_in (List.mem_of_getElem? (i := 773) (by decide +kernel)) rfl
theorem se_X4_latestGaveCheck : Cond.selects RX4 yX4_latestGaveCheck yX4_latestGaveCheck ∈ TB := TB_in (List.mem_of_getElem? (i := 774) (by decide +kernel)) rfl
abbrev m_X4_codeOf : Mt := (RX4, cX4_codeOf, 2, (some .int), 1, "codeOf")
set_option maxRecDepth 20000 in
theorem cd_X4_codeOf : Cond.code yX4_codeOf cX4_codeOf 2 (some .int) ∈ TB := TB_in (List.mem_of_getElem? (i := 872) rfl) rfl
theorem im_X4_codeOf : Cond.instanceMethod yX4_codeOf ∈ TB := TB_in (List.mem_of_getElem? (i := 870) (by decide +kernel)) rfl
theorem se_X4_codeOf : Cond.selects RX4 yX4_codeOf yX4_codeOf ∈ TB := TB_in (List.mem_of_getElem? (i := 871) (by decide +kernel)) rfl
abbrev m_X5_countRows (d : Nat) : Mt := (RX5, cX5_countRows, 8, (some .int), d, "countRows")
abbrev BASE_X5_countRows : Nat := 6
set_option maxRecDepth 20000 in
theorem cd_X5_countRows : Cond.code yX5_countRows cX5_countRows 8 (some .int) ∈ TB := TB_in (List.mem_of_getElem? (i := 720) rfl) rfl
theorem im_X5_countRows : Cond.instanceMethod yX5_countRows ∈ TB := TB_in (List.mem_of_getElem? (i := 719) (by decide +kernel)) rfl
theorem se_X5_countRows : Cond.selects RX5 yX5_countRows yX5_countRows ∈ TB := TB_in (List.mem_of_getElem? (i := 19) (by decide +kernel)) rfl
abbrev m_X8_hasRaised : Mt := (RX8, cX8_hasRaised, 2, (some .boolean), 1, "hasRaised")
set_option maxRecDepth 20000 in
theorem cd_X8_hasRaised : Cond.code yX8_hasRaised cX8_hasRaised 2 (some .boolean) ∈ TB := TB_in (List.mem_of_getElem? (i := 496) rfl) rfl
theorem im_X8_hasRaised : Cond.instanceMethod yX8_hasRaised ∈ TB := TB_in (List.mem_of_getElem? (i := 494) (by decide +kernel)) rfl
theorem se_X8_hasRaised : Cond.selects RX8 yX8_hasRaised yX8_hasRaised ∈ TB := TB_in (List.mem_of_getElem? (i := 495) (by decide +kernel)) rfl
abbrev m_X6_load : Mt := (RX6, cX6_load, 5, (some .int), 3, "load")
set_option maxRecDepth 20000 in
theorem cd_X6_load : Cond.code yX6_load cX6_load 5 (some .int) ∈ TB := TB_in (List.mem_of_getElem? (i := 482) rfl) rfl
theorem im_X6_load : Cond.instanceMethod yX6_load ∈ TB := TB_in (List.mem_of_getElem? (i := 480) (by decide +kernel)) rfl
theorem se_X6_load : Cond.selects RX6 yX6_load yX6_load ∈ TB := TB_in (List.mem_of_getElem? (i := 481) (by decide +kernel)) rfl
abbrev m_X6_findKings : Mt := (RX6, cX6_findKings, 3, (some .boolean), 2, "findKings")
set_option maxRecDepth 20000 in
theorem cd_X6_findKings : Cond.code yX6_findKings cX6_findKings 3 (some .boolean) ∈ TB := TB_in (List.mem_of_getElem? (i := 500) rfl) rfl
theorem im_X6_findKings : Cond.instanceMethod yX6_findKings ∈ TB := TB_in (List.mem_of_getElem? (i := 498) (by decide +kernel)) rfl
theorem se_X6_findKings : Cond.selects RX6 yX6_findKings yX6_findKings ∈ TB := TB_in (List.mem_of_getElem? (i := 499) (by decide +kernel)) rfl
abbrev m_X6_moverKind : Mt := (RX6, cX6_moverKind, 2, (some .int), 3, "moverKind")
set_option maxRecDepth 20000 in
theorem cd_X6_moverKind : Cond.code yX6_moverKind cX6_moverKind 2 (some .int) ∈ TB := TB_in (List.mem_of_getElem? (i := 669) rfl) rfl
theorem im_X6_moverKind : Cond.instanceMethod yX6_moverKind ∈ TB := TB_in (List.mem_of_getElem? (i := 667) (by decide +kernel)) rfl
theorem se_X6_moverKind : Cond.selects RX6 yX6_moverKind yX6_moverKind ∈ TB := TB_in (List.mem_of_getElem? (i := 668) (by decide +kernel)) rfl
abbrev m_X7_add : Mt := (RX7, cX7_add, 2, none, 1, "add")
set_option maxRecDepth 20000 in
theorem cd_X7_add : Cond.code yX7_add cX7_add 2 none ∈ TB := TB_in (List.mem_of_getElem? (i := 868) rfl) rfl
theorem im_X7_add : Cond.instanceMethod yX7_add ∈ TB := TB_in (List.mem_of_getElem? (i := 866) (by decide +kernel)) rfl
theorem se_X7_add : Cond.selects RX7 yX7_add yX7_add ∈ TB := TB_in (List.mem_of_getElem? (i := 867) (by decide +kernel)) rfl
abbrev m_X7_addField : Mt := (RX7, cX7_addField, 2, none, 2, "addField")
set_option maxRecDepth 20000 in
theorem cd_X7_addField : Cond.code yX7_addField cX7_addField 2 none ∈ TB := TB_in (List.mem_of_getElem? (i := 883) rfl) rfl
theorem im_X7_addField : Cond.instanceMethod yX7_addField ∈ TB := TB_in (List.mem_of_getElem? (i := 882) (by decide +kernel)) rfl
theorem se_X7_addField : Cond.selects RX7 yX7_addField yX7_addField ∈ TB := TB_in (List.mem_of_getElem? (i := 30) (by decide +kernel)) rfl
abbrev m_X7_addMove : Mt := (RX7, cX7_addMove, 2, none, 3, "addMove")
set_option maxRecDepth 20000 in
theorem cd_X7_addMove : Cond.code yX7_addMove cX7_addMove 2 none ∈ TB := TB_in (List.mem_of_getElem? (i := 876) rfl) rfl
theorem im_X7_addMove : Cond.instanceMethod yX7_addMove ∈ TB := TB_in (List.mem_of_getElem? (i := 875) (by decide +kernel)) rfl
theorem se_X7_addMove : Cond.selects RX7 yX7_addMove yX7_addMove ∈ TB := TB_in (List.mem_of_getElem? (i := 29) (by decide +kernel)) rfl
abbrev m_X7_setDown : Mt := (RX7, cX7_setDown, 3, none, 4, "setDown")
set_option maxRecDepth 20000 in
theorem cd_X7_setDown : Cond.code yX7_setDown cX7_setDown 3 none ∈ TB := TB_in (List.mem_of_getElem? (i := 864) rfl) rfl
theorem im_X7_setDown : Cond.instanceMethod yX7_setDown ∈ TB := TB_in (List.mem_of_getElem? (i := 862) (by decide +kernel)) rfl
theorem se_X7_setDown : Cond.selects RX7 yX7_setDown yX7_setDown ∈ TB := TB_in (List.mem_of_getElem? (i := 863) (by decide +kernel)) rfl
abbrev m_X7_fieldAt : Mt := (RX7, cX7_fieldAt, 4, (some .int), 1, "fieldAt")
set_option maxRecDepth 20000 in
theorem cd_X7_fieldAt : Cond.code yX7_fieldAt cX7_fieldAt 4 (some .int) ∈ TB := TB_in (List.mem_of_getElem? (i := 918) rfl) rfl
theorem im_X7_fieldAt : Cond.instanceMethod yX7_fieldAt ∈ TB := TB_in (List.mem_of_getElem? (i := 917) (by decide +kernel)) rfl
theorem se_X7_fieldAt : Cond.selects RX7 yX7_fieldAt yX7_fieldAt ∈ TB := TB_in (List.mem_of_getElem? (i := 32) (by decide +kernel)) rfl
abbrev m_X9_isHandKind : Mt := (RX9, cX9_isHandKind, 1, (some .boolean), 1, "isHandKind")
set_option maxRecDepth 20000 in
theorem cd_X9_isHandKind : Cond.code yX9_isHandKind cX9_isHandKind 1 (some .boolean) ∈ TB := TB_in (List.mem_of_getElem? (i := 470) rfl) rfl
theorem sx_X9_isHandKind : Cond.static yX9_isHandKind ∈ TB := TB_in (List.mem_of_getElem? (i := 469) (by decide +kernel)) rfl
abbrev m_X7_moveBetween : Mt := (RX7, cX7_moveBetween, 6, (some .int), 2, "moveBetween")
set_option maxRecDepth 20000 in
theorem cd_X7_moveBetween : Cond.code yX7_moveBetween cX7_moveBetween 6 (some .int) ∈ TB := TB_in (List.mem_of_getElem? (i := 914) rfl) rfl
theorem im_X7_moveBetween : Cond.instanceMethod yX7_moveBetween ∈ TB := TB_in (List.mem_of_getElem? (i := 912) (by decide +kernel)) rfl
theorem se_X7_moveBetween : Cond.selects RX7 yX7_moveBetween yX7_moveBetween ∈ TB := TB_in (List.mem_of_getElem? (i := 913) (by decide +kernel)) rfl
abbrev m_X8_areSteps : Mt := (RX8, cX8_areSteps, 1, (some .boolean), 1, "areSteps")
set_option maxRecDepth 20000 in
theorem cd_X8_areSteps : Cond.code yX8_areSteps cX8_areSteps 1 (some .boolean) ∈ TB := TB_in (List.mem_of_getElem? (i := 401) rfl) rfl
theorem sx_X8_areSteps : Cond.static yX8_areSteps ∈ TB := TB_in (List.mem_of_getElem? (i := 400) (by decide +kernel)) rfl
abbrev m_X8_areRuns : Mt := (RX8, cX8_areRuns, 1, (some .boolean), 1, "areRuns")
set_option maxRecDepth 20000 in
theorem cd_X8_areRuns : Cond.code yX8_areRuns cX8_areRuns 1 (some .boolean) ∈ TB := TB_in (List.mem_of_getElem? (i := 404) rfl) rfl
theorem sx_X8_areRuns : Cond.static yX8_areRuns ∈ TB := TB_in (List.mem_of_getElem? (i := 403) (by decide +kernel)) rfl
abbrev m_X8_linkField : Mt := (RX8, cX8_linkField, 6, none, 1, "linkField")
set_option maxRecDepth 20000 in
theorem cd_X8_linkField : Cond.code yX8_linkField cX8_linkField 6 none ∈ TB := TB_in (List.mem_of_getElem? (i := 105) rfl) rfl
theorem im_X8_linkField : Cond.instanceMethod yX8_linkField ∈ TB := TB_in (List.mem_of_getElem? (i := 104) (by decide +kernel)) rfl
theorem se_X8_linkField : Cond.selects RX8 yX8_linkField yX8_linkField ∈ TB := TB_in (List.mem_of_getElem? (i := 0) (by decide +kernel)) rfl
abbrev m_X8_markZones : Mt := (RX8, cX8_markZones, 3, none, 1, "markZones")
set_option maxRecDepth 20000 in
theorem cd_X8_markZones : Cond.code yX8_markZones cX8_markZones 3 none ∈ TB := TB_in (List.mem_of_getElem? (i := 113) rfl) rfl
theorem im_X8_markZones : Cond.instanceMethod yX8_markZones ∈ TB := TB_in (List.mem_of_getElem? (i := 112) (by decide +kernel)) rfl
theorem se_X8_markZones : Cond.selects RX8 yX8_markZones yX8_markZones ∈ TB := TB_in (List.mem_of_getElem? (i := 1) (by decide +kernel)) rfl
abbrev m_X8_turnedBits : Mt := (RX8, cX8_turnedBits, 3, (some .int), 1, "turnedBits")
set_option maxRecDepth 20000 in
theorem cd_X8_turnedBits : Cond.code yX8_turnedBits cX8_turnedBits 3 (some .int) ∈ TB := TB_in (List.mem_of_getElem? (i := 124) rfl) rfl
theorem sx_X8_turnedBits : Cond.static yX8_turnedBits ∈ TB := TB_in (List.mem_of_getElem? (i := 123) (by decide +kernel)) rfl
abbrev m_X8_tell : Mt := (RX8, cX8_tell, 4, none, 2, "tell")
set_option maxRecDepth 20000 in
theorem cd_X8_tell : Cond.code yX8_tell cX8_tell 4 none ∈ TB := TB_in (List.mem_of_getElem? (i := 121) rfl) rfl
theorem im_X8_tell : Cond.instanceMethod yX8_tell ∈ TB := TB_in (List.mem_of_getElem? (i := 119) (by decide +kernel)) rfl
theorem se_X8_tell : Cond.selects RX8 yX8_tell yX8_tell ∈ TB := TB_in (List.mem_of_getElem? (i := 120) (by decide +kernel)) rfl
abbrev m_X9_kind : Mt := (RX9, cX9_kind, 7, (some .int), 3, "kind")
set_option maxRecDepth 20000 in
theorem cd_X9_kind : Cond.code yX9_kind cX9_kind 7 (some .int) ∈ TB := TB_in (List.mem_of_getElem? (i := 398) rfl) rfl
theorem im_X9_kind : Cond.instanceMethod yX9_kind ∈ TB := TB_in (List.mem_of_getElem? (i := 396) (by decide +kernel)) rfl
theorem se_X9_kind : Cond.selects RX9 yX9_kind yX9_kind ∈ TB := TB_in (List.mem_of_getElem? (i := 397) (by decide +kernel)) rfl
abbrev m_X9_found : Mt := (RX9, cX9_found, 2, (some .int), 1, "found")
set_option maxRecDepth 20000 in
theorem cd_X9_found : Cond.code yX9_found cX9_found 2 (some .int) ∈ TB := TB_in (List.mem_of_getElem? (i := 420) rfl) rfl
theorem im_X9_found : Cond.instanceMethod yX9_found ∈ TB := TB_in (List.mem_of_getElem? (i := 419) (by decide +kernel)) rfl
theorem se_X9_found : Cond.selects RX9 yX9_found yX9_found ∈ TB := TB_in (List.mem_of_getElem? (i := 2) (by decide +kernel)) rfl
abbrev m_X9_line : Mt := (RX9, cX9_line, 4, (some .int), 2, "line")
set_option maxRecDepth 20000 in
theorem cd_X9_line : Cond.code yX9_line cX9_line 4 (some .int) ∈ TB := TB_in (List.mem_of_getElem? (i := 409) rfl) rfl
theorem im_X9_line : Cond.instanceMethod yX9_line ∈ TB := TB_in (List.mem_of_getElem? (i := 407) (by decide +kernel)) rfl
theorem se_X9_line : Cond.selects RX9 yX9_line yX9_line ∈ TB := TB_in (List.mem_of_getElem? (i := 408) (by decide +kernel)) rfl
abbrev m_X9_lose : Mt := (RX9, cX9_lose, 3, (some .int), 2, "lose")
set_option maxRecDepth 20000 in
theorem cd_X9_lose : Cond.code yX9_lose cX9_lose 3 (some .int) ∈ TB := TB_in (List.mem_of_getElem? (i := 428) rfl) rfl
theorem im_X9_lose : Cond.instanceMethod yX9_lose ∈ TB := TB_in (List.mem_of_getElem? (i := 426) (by decide +kernel)) rfl
theorem se_X9_lose : Cond.selects RX9 yX9_lose yX9_lose ∈ TB := TB_in (List.mem_of_getElem? (i := 427) (by decide +kernel)) rfl
abbrev m_X9_put : Mt := (RX9, cX9_put, 6, (some .int), 3, "put")
set_option maxRecDepth 20000 in
theorem cd_X9_put : Cond.code yX9_put cX9_put 6 (some .int) ∈ TB := TB_in (List.mem_of_getElem? (i := 436) rfl) rfl
theorem im_X9_put : Cond.instanceMethod yX9_put ∈ TB := TB_in (List.mem_of_getElem? (i := 434) (by decide +kernel)) rfl
theorem se_X9_put : Cond.selects RX9 yX9_put yX9_put ∈ TB := TB_in (List.mem_of_getElem? (i := 435) (by decide +kernel)) rfl
abbrev m_X9_get : Mt := (RX9, cX9_get, 5, (some .int), 3, "get")
set_option maxRecDepth 20000 in
theorem cd_X9_get : Cond.code yX9_get cX9_get 5 (some .int) ∈ TB := TB_in (List.mem_of_getElem? (i := 448) rfl) rfl
theorem im_X9_get : Cond.instanceMethod yX9_get ∈ TB := TB_in (List.mem_of_getElem? (i := 446) (by decide +kernel)) rfl
theorem se_X9_get : Cond.selects RX9 yX9_get yX9_get ∈ TB := TB_in (List.mem_of_getElem? (i := 447) (by decide +kernel)) rfl
abbrev m_X9_copy : Mt := (RX9, cX9_copy, 6, (some .int), 2, "copy")
set_option maxRecDepth 20000 in
theorem cd_X9_copy : Cond.code yX9_copy cX9_copy 6 (some .int) ∈ TB := TB_in (List.mem_of_getElem? (i := 453) rfl) rfl
theorem im_X9_copy : Cond.instanceMethod yX9_copy ∈ TB := TB_in (List.mem_of_getElem? (i := 451) (by decide +kernel)) rfl
theorem se_X9_copy : Cond.selects RX9 yX9_copy yX9_copy ∈ TB := TB_in (List.mem_of_getElem? (i := 452) (by decide +kernel)) rfl
abbrev m_X9_isSide : Mt := (RX9, cX9_isSide, 1, (some .boolean), 1, "isSide")
set_option maxRecDepth 20000 in
theorem cd_X9_isSide : Cond.code yX9_isSide cX9_isSide 1 (some .boolean) ∈ TB := TB_in (List.mem_of_getElem? (i := 467) rfl) rfl
theorem sx_X9_isSide : Cond.static yX9_isSide ∈ TB := TB_in (List.mem_of_getElem? (i := 466) (by decide +kernel)) rfl
abbrev m_X9_hand : Mt := (RX9, cX9_hand, 5, (some .int), 2, "hand")
set_option maxRecDepth 20000 in
theorem cd_X9_hand : Cond.code yX9_hand cX9_hand 5 (some .int) ∈ TB := TB_in (List.mem_of_getElem? (i := 464) rfl) rfl
theorem im_X9_hand : Cond.instanceMethod yX9_hand ∈ TB := TB_in (List.mem_of_getElem? (i := 462) (by decide +kernel)) rfl
theorem se_X9_hand : Cond.selects RX9 yX9_hand yX9_hand ∈ TB := TB_in (List.mem_of_getElem? (i := 463) (by decide +kernel)) rfl
abbrev m_X9_lookAround : Mt := (RX9, cX9_lookAround, 1, none, 6, "lookAround")
set_option maxRecDepth 20000 in
theorem cd_X9_lookAround : Cond.code yX9_lookAround cX9_lookAround 1 none ∈ TB := TB_in (List.mem_of_getElem? (i := 543) rfl) rfl
theorem im_X9_lookAround : Cond.instanceMethod yX9_lookAround ∈ TB := TB_in (List.mem_of_getElem? (i := 542) (by decide +kernel)) rfl
theorem se_X9_lookAround : Cond.selects RX9 yX9_lookAround yX9_lookAround ∈ TB := TB_in (List.mem_of_getElem? (i := 8) (by decide +kernel)) rfl
abbrev m_X9_stand : Mt := (RX9, cX9_stand, 3, (some .int), 7, "stand")
set_option maxRecDepth 20000 in
theorem cd_X9_stand : Cond.code yX9_stand cX9_stand 3 (some .int) ∈ TB := TB_in (List.mem_of_getElem? (i := 474) rfl) rfl
theorem im_X9_stand : Cond.instanceMethod yX9_stand ∈ TB := TB_in (List.mem_of_getElem? (i := 472) (by decide +kernel)) rfl
theorem se_X9_stand : Cond.selects RX9 yX9_stand yX9_stand ∈ TB := TB_in (List.mem_of_getElem? (i := 473) (by decide +kernel)) rfl
abbrev m_X9_clear : Mt := (RX9, cX9_clear, 1, (some .int), 1, "clear")
set_option maxRecDepth 20000 in
theorem cd_X9_clear : Cond.code yX9_clear cX9_clear 1 (some .int) ∈ TB := TB_in (List.mem_of_getElem? (i := 615) rfl) rfl
theorem im_X9_clear : Cond.instanceMethod yX9_clear ∈ TB := TB_in (List.mem_of_getElem? (i := 613) (by decide +kernel)) rfl
theorem se_X9_clear : Cond.selects RX9 yX9_clear yX9_clear ∈ TB := TB_in (List.mem_of_getElem? (i := 614) (by decide +kernel)) rfl
abbrev m_X9_isField : Mt := (RX9, cX9_isField, 2, (some .boolean), 1, "isField")
set_option maxRecDepth 20000 in
theorem cd_X9_isField : Cond.code yX9_isField cX9_isField 2 (some .boolean) ∈ TB := TB_in (List.mem_of_getElem? (i := 623) rfl) rfl
theorem im_X9_isField : Cond.instanceMethod yX9_isField ∈ TB := TB_in (List.mem_of_getElem? (i := 622) (by decide +kernel)) rfl
theorem se_X9_isField : Cond.selects RX9 yX9_isField yX9_isField ∈ TB := TB_in (List.mem_of_getElem? (i := 14) (by decide +kernel)) rfl
abbrev m_X9_field : Mt := (RX9, cX9_field, 2, (some .int), 2, "field")
set_option maxRecDepth 20000 in
theorem cd_X9_field : Cond.code yX9_field cX9_field 2 (some .int) ∈ TB := TB_in (List.mem_of_getElem? (i := 619) rfl) rfl
theorem im_X9_field : Cond.instanceMethod yX9_field ∈ TB := TB_in (List.mem_of_getElem? (i := 617) (by decide +kernel)) rfl
theorem se_X9_field : Cond.selects RX9 yX9_field yX9_field ∈ TB := TB_in (List.mem_of_getElem? (i := 618) (by decide +kernel)) rfl
abbrev m_X9_inHand : Mt := (RX9, cX9_inHand, 3, (some .int), 1, "inHand")
set_option maxRecDepth 20000 in
theorem cd_X9_inHand : Cond.code yX9_inHand cX9_inHand 3 (some .int) ∈ TB := TB_in (List.mem_of_getElem? (i := 631) rfl) rfl
theorem im_X9_inHand : Cond.instanceMethod yX9_inHand ∈ TB := TB_in (List.mem_of_getElem? (i := 630) (by decide +kernel)) rfl
theorem se_X9_inHand : Cond.selects RX9 yX9_inHand yX9_inHand ∈ TB := TB_in (List.mem_of_getElem? (i := 15) (by decide +kernel)) rfl
abbrev m_X9_has : Mt := (RX9, cX9_has, 3, (some .int), 2, "has")
set_option maxRecDepth 20000 in
theorem cd_X9_has : Cond.code yX9_has cX9_has 3 (some .int) ∈ TB := TB_in (List.mem_of_getElem? (i := 627) rfl) rfl
theorem im_X9_has : Cond.instanceMethod yX9_has ∈ TB := TB_in (List.mem_of_getElem? (i := 625) (by decide +kernel)) rfl
theorem se_X9_has : Cond.selects RX9 yX9_has yX9_has ∈ TB := TB_in (List.mem_of_getElem? (i := 626) (by decide +kernel)) rfl
abbrev m_X9_asNumber : Mt := (RX9, cX9_asNumber, 1, (some .int), 1, "asNumber")
set_option maxRecDepth 20000 in
theorem cd_X9_asNumber : Cond.code yX9_asNumber cX9_asNumber 1 (some .int) ∈ TB := TB_in (List.mem_of_getElem? (i := 639) rfl) rfl
theorem sx_X9_asNumber : Cond.static yX9_asNumber ∈ TB := TB_in (List.mem_of_getElem? (i := 638) (by decide +kernel)) rfl
abbrev m_X9_attacks : Mt := (RX9, cX9_attacks, 3, (some .int), 3, "attacks")
set_option maxRecDepth 20000 in
theorem cd_X9_attacks : Cond.code yX9_attacks cX9_attacks 3 (some .int) ∈ TB := TB_in (List.mem_of_getElem? (i := 635) rfl) rfl
theorem im_X9_attacks : Cond.instanceMethod yX9_attacks ∈ TB := TB_in (List.mem_of_getElem? (i := 633) (by decide +kernel)) rfl
theorem se_X9_attacks : Cond.selects RX9 yX9_attacks yX9_attacks ∈ TB := TB_in (List.mem_of_getElem? (i := 634) (by decide +kernel)) rfl
abbrev m_X9_check : Mt := (RX9, cX9_check, 2, (some .int), 4, "check")
set_option maxRecDepth 20000 in
theorem cd_X9_check : Cond.code yX9_check cX9_check 2 (some .int) ∈ TB := TB_in (List.mem_of_getElem? (i := 643) rfl) rfl
theorem im_X9_check : Cond.instanceMethod yX9_check ∈ TB := TB_in (List.mem_of_getElem? (i := 641) (by decide +kernel)) rfl
theorem se_X9_check : Cond.selects RX9 yX9_check yX9_check ∈ TB := TB_in (List.mem_of_getElem? (i := 642) (by decide +kernel)) rfl
abbrev m_X9_moves : Mt := (RX9, cX9_moves, 1, (some .int), 1, "moves")
set_option maxRecDepth 20000 in
theorem cd_X9_moves : Cond.code yX9_moves cX9_moves 1 (some .int) ∈ TB := TB_in (List.mem_of_getElem? (i := 647) rfl) rfl
theorem im_X9_moves : Cond.instanceMethod yX9_moves ∈ TB := TB_in (List.mem_of_getElem? (i := 645) (by decide +kernel)) rfl
theorem se_X9_moves : Cond.selects RX9 yX9_moves yX9_moves ∈ TB := TB_in (List.mem_of_getElem? (i := 646) (by decide +kernel)) rfl
abbrev m_X9_move : Mt := (RX9, cX9_move, 4, (some .int), 4, "move")
set_option maxRecDepth 20000 in
theorem cd_X9_move : Cond.code yX9_move cX9_move 4 (some .int) ∈ TB := TB_in (List.mem_of_getElem? (i := 651) rfl) rfl
theorem im_X9_move : Cond.instanceMethod yX9_move ∈ TB := TB_in (List.mem_of_getElem? (i := 649) (by decide +kernel)) rfl
theorem se_X9_move : Cond.selects RX9 yX9_move yX9_move ∈ TB := TB_in (List.mem_of_getElem? (i := 650) (by decide +kernel)) rfl
abbrev m_X9_why : Mt := (RX9, cX9_why, 4, (some .int), 6, "why")
set_option maxRecDepth 20000 in
theorem cd_X9_why : Cond.code yX9_why cX9_why 4 (some .int) ∈ TB := TB_in (List.mem_of_getElem? (i := 682) rfl) rfl
theorem im_X9_why : Cond.instanceMethod yX9_why ∈ TB := TB_in (List.mem_of_getElem? (i := 680) (by decide +kernel)) rfl
theorem se_X9_why : Cond.selects RX9 yX9_why yX9_why ∈ TB := TB_in (List.mem_of_getElem? (i := 681) (by decide +kernel)) rfl
abbrev m_X9_whySet : Mt := (RX9, cX9_whySet, 3, (some .int), 6, "whySet")
set_option maxRecDepth 20000 in
theorem cd_X9_whySet : Cond.code yX9_whySet cX9_whySet 3 (some .int) ∈ TB := TB_in (List.mem_of_getElem? (i := 711) rfl) rfl
theorem im_X9_whySet : Cond.instanceMethod yX9_whySet ∈ TB := TB_in (List.mem_of_getElem? (i := 709) (by decide +kernel)) rfl
theorem se_X9_whySet : Cond.selects RX9 yX9_whySet yX9_whySet ∈ TB := TB_in (List.mem_of_getElem? (i := 710) (by decide +kernel)) rfl
abbrev m_X9_rows : Mt := (RX9, cX9_rows, 3, (some .int), 19, "rows")
set_option maxRecDepth 20000 in
theorem cd_X9_rows : Cond.code yX9_rows cX9_rows 3 (some .int) ∈ TB := TB_in (List.mem_of_getElem? (i := 716) rfl) rfl
theorem im_X9_rows : Cond.instanceMethod yX9_rows ∈ TB := TB_in (List.mem_of_getElem? (i := 714) (by decide +kernel)) rfl
theorem se_X9_rows : Cond.selects RX9 yX9_rows yX9_rows ∈ TB := TB_in (List.mem_of_getElem? (i := 715) (by decide +kernel)) rfl
abbrev m_X9_stateOfPlay : Mt := (RX9, cX9_stateOfPlay, 1, (some .int), 3, "stateOfPlay")
set_option maxRecDepth 20000 in
theorem cd_X9_stateOfPlay : Cond.code yX9_stateOfPlay cX9_stateOfPlay 1 (some .int) ∈ TB := TB_in (List.mem_of_getElem? (i := 731) rfl) rfl
theorem im_X9_stateOfPlay : Cond.instanceMethod yX9_stateOfPlay ∈ TB := TB_in (List.mem_of_getElem? (i := 730) (by decide +kernel)) rfl
theorem se_X9_stateOfPlay : Cond.selects RX9 yX9_stateOfPlay yX9_stateOfPlay ∈ TB := TB_in (List.mem_of_getElem? (i := 20) (by decide +kernel)) rfl
abbrev m_X9_go : Mt := (RX9, cX9_go, 2, (some .int), 7, "go")
set_option maxRecDepth 20000 in
theorem cd_X9_go : Cond.code yX9_go cX9_go 2 (some .int) ∈ TB := TB_in (List.mem_of_getElem? (i := 727) rfl) rfl
theorem im_X9_go : Cond.instanceMethod yX9_go ∈ TB := TB_in (List.mem_of_getElem? (i := 725) (by decide +kernel)) rfl
theorem se_X9_go : Cond.selects RX9 yX9_go yX9_go ∈ TB := TB_in (List.mem_of_getElem? (i := 726) (by decide +kernel)) rfl
abbrev m_X9_back : Mt := (RX9, cX9_back, 1, (some .int), 7, "back")
set_option maxRecDepth 20000 in
theorem cd_X9_back : Cond.code yX9_back cX9_back 1 (some .int) ∈ TB := TB_in (List.mem_of_getElem? (i := 753) rfl) rfl
theorem im_X9_back : Cond.instanceMethod yX9_back ∈ TB := TB_in (List.mem_of_getElem? (i := 751) (by decide +kernel)) rfl
theorem se_X9_back : Cond.selects RX9 yX9_back yX9_back ∈ TB := TB_in (List.mem_of_getElem? (i := 752) (by decide +kernel)) rfl
abbrev m_X9_forth : Mt := (RX9, cX9_forth, 1, (some .int), 7, "forth")
set_option maxRecDepth 20000 in
theorem cd_X9_forth : Cond.code yX9_forth cX9_forth 1 (some .int) ∈ TB := TB_in (List.mem_of_getElem? (i := 762) rfl) rfl
theorem im_X9_forth : Cond.instanceMethod yX9_forth ∈ TB := TB_in (List.mem_of_getElem? (i := 760) (by decide +kernel)) rfl
theorem se_X9_forth : Cond.selects RX9 yX9_forth yX9_forth ∈ TB := TB_in (List.mem_of_getElem? (i := 761) (by decide +kernel)) rfl
abbrev m_X9_ofPlay : Mt := (RX9, cX9_ofPlay, 2, (some .int), 4, "ofPlay")
set_option maxRecDepth 20000 in
theorem cd_X9_ofPlay : Cond.code yX9_ofPlay cX9_ofPlay 2 (some .int) ∈ TB := TB_in (List.mem_of_getElem? (i := 771) rfl) rfl
theorem im_X9_ofPlay : Cond.instanceMethod yX9_ofPlay ∈ TB := TB_in (List.mem_of_getElem? (i := 770) (by decide +kernel)) rfl
theorem se_X9_ofPlay : Cond.selects RX9 yX9_ofPlay yX9_ofPlay ∈ TB := TB_in (List.mem_of_getElem? (i := 22) (by decide +kernel)) rfl
abbrev m_X9_play : Mt := (RX9, cX9_play, 2, (some .int), 5, "play")
set_option maxRecDepth 20000 in
theorem cd_X9_play : Cond.code yX9_play cX9_play 2 (some .int) ∈ TB := TB_in (List.mem_of_getElem? (i := 767) rfl) rfl
theorem im_X9_play : Cond.instanceMethod yX9_play ∈ TB := TB_in (List.mem_of_getElem? (i := 765) (by decide +kernel)) rfl
theorem se_X9_play : Cond.selects RX9 yX9_play yX9_play ∈ TB := TB_in (List.mem_of_getElem? (i := 766) (by decide +kernel)) rfl
abbrev m_X9_fuel : Mt := (RX9, cX9_fuel, 3, (some .int), 1, "fuel")
set_option maxRecDepth 20000 in
theorem cd_X9_fuel : Cond.code yX9_fuel cX9_fuel 3 (some .int) ∈ TB := TB_in (List.mem_of_getElem? (i := 779) rfl) rfl
theorem im_X9_fuel : Cond.instanceMethod yX9_fuel ∈ TB := TB_in (List.mem_of_getElem? (i := 777) (by decide +kernel)) rfl
theorem se_X9_fuel : Cond.selects RX9 yX9_fuel yX9_fuel ∈ TB := TB_in (List.mem_of_getElem? (i := 778) (by decide +kernel)) rfl
abbrev m_X9_hunt : Mt := (RX9, cX9_hunt, 3, (some .int), 19, "hunt")
set_option maxRecDepth 20000 in
theorem cd_X9_hunt : Cond.code yX9_hunt cX9_hunt 3 (some .int) ∈ TB := TB_in (List.mem_of_getElem? (i := 783) rfl) rfl
theorem im_X9_hunt : Cond.instanceMethod yX9_hunt ∈ TB := TB_in (List.mem_of_getElem? (i := 781) (by decide +kernel)) rfl
theorem se_X9_hunt : Cond.selects RX9 yX9_hunt yX9_hunt ∈ TB := TB_in (List.mem_of_getElem? (i := 782) (by decide +kernel)) rfl
abbrev m_X9_spent : Mt := (RX9, cX9_spent, 1, (some .int), 1, "spent")
set_option maxRecDepth 20000 in
theorem cd_X9_spent : Cond.code yX9_spent cX9_spent 1 (some .int) ∈ TB := TB_in (List.mem_of_getElem? (i := 818) rfl) rfl
theorem im_X9_spent : Cond.instanceMethod yX9_spent ∈ TB := TB_in (List.mem_of_getElem? (i := 816) (by decide +kernel)) rfl
theorem se_X9_spent : Cond.selects RX9 yX9_spent yX9_spent ∈ TB := TB_in (List.mem_of_getElem? (i := 817) (by decide +kernel)) rfl
abbrev m_X9_tree : Mt := (RX9, cX9_tree, 1, (some .int), 1, "tree")
set_option maxRecDepth 20000 in
theorem cd_X9_tree : Cond.code yX9_tree cX9_tree 1 (some .int) ∈ TB := TB_in (List.mem_of_getElem? (i := 822) rfl) rfl
theorem im_X9_tree : Cond.instanceMethod yX9_tree ∈ TB := TB_in (List.mem_of_getElem? (i := 820) (by decide +kernel)) rfl
theorem se_X9_tree : Cond.selects RX9 yX9_tree yX9_tree ∈ TB := TB_in (List.mem_of_getElem? (i := 821) (by decide +kernel)) rfl
abbrev m_X9_node : Mt := (RX9, cX9_node, 4, (some .int), 3, "node")
set_option maxRecDepth 20000 in
theorem cd_X9_node : Cond.code yX9_node cX9_node 4 (some .int) ∈ TB := TB_in (List.mem_of_getElem? (i := 826) rfl) rfl
theorem im_X9_node : Cond.instanceMethod yX9_node ∈ TB := TB_in (List.mem_of_getElem? (i := 824) (by decide +kernel)) rfl
theorem se_X9_node : Cond.selects RX9 yX9_node yX9_node ∈ TB := TB_in (List.mem_of_getElem? (i := 825) (by decide +kernel)) rfl
abbrev m_X9_forge : Mt := (RX9, cX9_forge, 6, (some .int), 2, "forge")
set_option maxRecDepth 20000 in
theorem cd_X9_forge : Cond.code yX9_forge cX9_forge 6 (some .int) ∈ TB := TB_in (List.mem_of_getElem? (i := 835) rfl) rfl
theorem im_X9_forge : Cond.instanceMethod yX9_forge ∈ TB := TB_in (List.mem_of_getElem? (i := 833) (by decide +kernel)) rfl
theorem se_X9_forge : Cond.selects RX9 yX9_forge yX9_forge ∈ TB := TB_in (List.mem_of_getElem? (i := 834) (by decide +kernel)) rfl
abbrev m_X9_verify : Mt := (RX9, cX9_verify, 1, (some .int), 27, "verify")
set_option maxRecDepth 20000 in
theorem cd_X9_verify : Cond.code yX9_verify cX9_verify 1 (some .int) ∈ TB := TB_in (List.mem_of_getElem? (i := 839) rfl) rfl
theorem im_X9_verify : Cond.instanceMethod yX9_verify ∈ TB := TB_in (List.mem_of_getElem? (i := 837) (by decide +kernel)) rfl
theorem se_X9_verify : Cond.selects RX9 yX9_verify yX9_verify ∈ TB := TB_in (List.mem_of_getElem? (i := 838) (by decide +kernel)) rfl
abbrev m_X9_write : Mt := (RX9, cX9_write, 1, (some .int), 5, "write")
set_option maxRecDepth 20000 in
theorem cd_X9_write : Cond.code yX9_write cX9_write 1 (some .int) ∈ TB := TB_in (List.mem_of_getElem? (i := 860) rfl) rfl
theorem im_X9_write : Cond.instanceMethod yX9_write ∈ TB := TB_in (List.mem_of_getElem? (i := 858) (by decide +kernel)) rfl
theorem se_X9_write : Cond.selects RX9 yX9_write yX9_write ∈ TB := TB_in (List.mem_of_getElem? (i := 859) (by decide +kernel)) rfl
abbrev m_X9_type : Mt := (RX9, cX9_type, 2, (some .int), 2, "type")
set_option maxRecDepth 20000 in
theorem cd_X9_type : Cond.code yX9_type cX9_type 2 (some .int) ∈ TB := TB_in (List.mem_of_getElem? (i := 889) rfl) rfl
theorem im_X9_type : Cond.instanceMethod yX9_type ∈ TB := TB_in (List.mem_of_getElem? (i := 887) (by decide +kernel)) rfl
theorem se_X9_type : Cond.selects RX9 yX9_type yX9_type ∈ TB := TB_in (List.mem_of_getElem? (i := 888) (by decide +kernel)) rfl
abbrev m_X9_wipe : Mt := (RX9, cX9_wipe, 2, (some .int), 1, "wipe")
set_option maxRecDepth 20000 in
theorem cd_X9_wipe : Cond.code yX9_wipe cX9_wipe 2 (some .int) ∈ TB := TB_in (List.mem_of_getElem? (i := 894) rfl) rfl
theorem im_X9_wipe : Cond.instanceMethod yX9_wipe ∈ TB := TB_in (List.mem_of_getElem? (i := 892) (by decide +kernel)) rfl
theorem se_X9_wipe : Cond.selects RX9 yX9_wipe yX9_wipe ∈ TB := TB_in (List.mem_of_getElem? (i := 893) (by decide +kernel)) rfl
abbrev m_X9_letter : Mt := (RX9, cX9_letter, 2, (some .int), 1, "letter")
set_option maxRecDepth 20000 in
theorem cd_X9_letter : Cond.code yX9_letter cX9_letter 2 (some .int) ∈ TB := TB_in (List.mem_of_getElem? (i := 898) rfl) rfl
theorem im_X9_letter : Cond.instanceMethod yX9_letter ∈ TB := TB_in (List.mem_of_getElem? (i := 896) (by decide +kernel)) rfl
theorem se_X9_letter : Cond.selects RX9 yX9_letter yX9_letter ∈ TB := TB_in (List.mem_of_getElem? (i := 897) (by decide +kernel)) rfl
abbrev m_X9_doText : Mt := (RX9, cX9_doText, 4, (some .int), 6, "doText")
set_option maxRecDepth 20000 in
theorem cd_X9_doText : Cond.code yX9_doText cX9_doText 4 (some .int) ∈ TB := TB_in (List.mem_of_getElem? (i := 910) rfl) rfl
theorem im_X9_doText : Cond.instanceMethod yX9_doText ∈ TB := TB_in (List.mem_of_getElem? (i := 909) (by decide +kernel)) rfl
theorem se_X9_doText : Cond.selects RX9 yX9_doText yX9_doText ∈ TB := TB_in (List.mem_of_getElem? (i := 31) (by decide +kernel)) rfl
abbrev m_X9_read : Mt := (RX9, cX9_read, 3, (some .int), 7, "read")
set_option maxRecDepth 20000 in
theorem cd_X9_read : Cond.code yX9_read cX9_read 3 (some .int) ∈ TB := TB_in (List.mem_of_getElem? (i := 902) rfl) rfl
theorem im_X9_read : Cond.instanceMethod yX9_read ∈ TB := TB_in (List.mem_of_getElem? (i := 900) (by decide +kernel)) rfl
theorem se_X9_read : Cond.selects RX9 yX9_read yX9_read ∈ TB := TB_in (List.mem_of_getElem? (i := 901) (by decide +kernel)) rfl
abbrev m_X9_finding : Mt := (RX9, cX9_finding, 1, (some .int), 1, "finding")
set_option maxRecDepth 20000 in
theorem cd_X9_finding : Cond.code yX9_finding cX9_finding 1 (some .int) ∈ TB := TB_in (List.mem_of_getElem? (i := 935) rfl) rfl
theorem im_X9_finding : Cond.instanceMethod yX9_finding ∈ TB := TB_in (List.mem_of_getElem? (i := 933) (by decide +kernel)) rfl
theorem se_X9_finding : Cond.selects RX9 yX9_finding yX9_finding ∈ TB := TB_in (List.mem_of_getElem? (i := 934) (by decide +kernel)) rfl
abbrev m_X9_digest : Mt := (RX9, cX9_digest, 5, (some .long), 5, "digest")
set_option maxRecDepth 20000 in
theorem cd_X9_digest : Cond.code yX9_digest cX9_digest 5 (some .long) ∈ TB := TB_in (List.mem_of_getElem? (i := 939) rfl) rfl
theorem im_X9_digest : Cond.instanceMethod yX9_digest ∈ TB := TB_in (List.mem_of_getElem? (i := 937) (by decide +kernel)) rfl
theorem se_X9_digest : Cond.selects RX9 yX9_digest yX9_digest ∈ TB := TB_in (List.mem_of_getElem? (i := 938) (by decide +kernel)) rfl
theorem ga_X0 : (u_ws RX0 TX0 9).all goodWord = true := by decide +kernel
theorem tb_X0 : ∀ w ∈ u_ws RX0 TX0 9, w ∈ TB := fun w hw => TB_in ((goodIn_r (big := lw_tbl) (u_ws RX0 TX0 9) [279, 281, 283, 285, 287, 289, 291, 293, 295] (by decide +kernel) ga_X0) w hw).1 (List.all_eq_true.mp ga_X0 w hw)
theorem lk_X0_33 : Cond.fieldLink RX0 33 RX0 "size" "I" ∈ TB := TB_in (List.mem_of_getElem? (i := 271) (by decide +kernel)) rfl
theorem fl_X0_33 : FL RX0 33 0 5 := ⟨RX0, TX0, 9, rfl, by decide, tb_X0, lk_X0_33⟩
theorem fp_X0_33 : FP RX0 33 0 5 .int := ⟨RX0, TX0, 9, tyX0, rfl, by decide, tb_X0, lk_X0_33, tyX0_ok, nmX0, rfl, by decide +kernel⟩
theorem st_29_5 (a : Nat → Nat) (w : Wd) (v : Int32) : (fvs a w 29).set 5 (.int v) = fvs a (wdI w 29 5 v) 29 := rfl
theorem lk_X0_36 : Cond.fieldLink RX0 36 RX0 "used" "I" ∈ TB := TB_in (List.mem_of_getElem? (i := 275) (by decide +kernel)) rfl
theorem fl_X0_36 : FL RX0 36 0 7 := ⟨RX0, TX0, 9, rfl, by decide, tb_X0, lk_X0_36⟩
theorem fp_X0_36 : FP RX0 36 0 7 .int := ⟨RX0, TX0, 9, tyX0, rfl, by decide, tb_X0, lk_X0_36, tyX0_ok, nmX0, rfl, by decide +kernel⟩
theorem st_29_7 (a : Nat → Nat) (w : Wd) (v : Int32) : (fvs a w 29).set 7 (.int v) = fvs a (wdI w 29 7 v) 29 := rfl
theorem lk_X0_39 : Cond.fieldLink RX0 39 RX0 "dry" "Z" ∈ TB := TB_in (List.mem_of_getElem? (i := 277) (by decide +kernel)) rfl
theorem fl_X0_39 : FL RX0 39 0 8 := ⟨RX0, TX0, 9, rfl, by decide, tb_X0, lk_X0_39⟩
theorem fp_X0_39 : FP RX0 39 0 8 .boolean := ⟨RX0, TX0, 9, tyX0, rfl, by decide, tb_X0, lk_X0_39, tyX0_ok, nmX0, rfl, by decide +kernel⟩
theorem st_29_8 (a : Nat → Nat) (w : Wd) (v : Int32) : (fvs a w 29).set 8 (.int v) = fvs a (wdI w 29 8 v) 29 := rfl
theorem ini_X0 : Cond.initialized RX0 ∈ TB := TB_in (List.mem_of_getElem? (i := 80) (by decide +kernel)) rfl
theorem ini_X2 : Cond.initialized RX2 ∈ TB := TB_in (List.mem_of_getElem? (i := 85) (by decide +kernel)) rfl
theorem ga_X6 : (u_ws RX6 TX6 8).all goodWord = true := by decide +kernel
theorem tb_X6 : ∀ w ∈ u_ws RX6 TX6 8, w ∈ TB := fun w hw => TB_in ((goodIn_r (big := lw_tbl) (u_ws RX6 TX6 8) [220, 222, 224, 226, 228, 230, 232, 234] (by decide +kernel) ga_X6) w hw).1 (List.all_eq_true.mp ga_X6 w hw)
theorem lk_X6_33 : Cond.fieldLink RX6 33 RX6 "cells" "[I" ∈ TB := TB_in (List.mem_of_getElem? (i := 204) (by decide +kernel)) rfl
theorem fl_X6_33 : FL RX6 33 4 3 := ⟨RX6, TX6, 8, rfl, by decide, tb_X6, lk_X6_33⟩
theorem ml_X6_58 : Cond.methodLink RX6 58 yX2_sideOf ∈ TB := TB_in (List.mem_of_getElem? (i := 501) (by decide +kernel)) rfl
theorem cb_X6_58 : CB RX6 58 yX2_sideOf m_X2_sideOf 1 := ⟨cd_X2_sideOf, ml_X6_58, ini_X2, by decide +kernel⟩
theorem lk_X6_18 : Cond.fieldLink RX6 18 RX6 "ways" "LDropChase$Ways;" ∈ TB := TB_in (List.mem_of_getElem? (i := 201) (by decide +kernel)) rfl
theorem fl_X6_18 : FL RX6 18 4 0 := ⟨RX6, TX6, 8, rfl, by decide, tb_X6, lk_X6_18⟩
theorem ga_X8 : (u_ws RX8 TX8 10).all goodWord = true := by decide +kernel
theorem tb_X8 : ∀ w ∈ u_ws RX8 TX8 10, w ∈ TB := fun w hw => TB_in ((goodIn_r (big := lw_tbl) (u_ws RX8 TX8 10) [148, 150, 152, 154, 156, 158, 160, 162, 164, 166] (by decide +kernel) ga_X8) w hw).1 (List.all_eq_true.mp ga_X8 w hw)
theorem lk_X6_97 : Cond.fieldLink RX6 97 RX8 "steps" "[I" ∈ TB := TB_in (List.mem_of_getElem? (i := 138) (by decide +kernel)) rfl
theorem fl_X6_97 : FL RX6 97 6 5 := ⟨RX8, TX8, 10, rfl, by decide, tb_X8, lk_X6_97⟩
theorem ml_X6_100 : Cond.methodLink RX6 100 yX2_typeOf ∈ TB := TB_in (List.mem_of_getElem? (i := 558) (by decide +kernel)) rfl
theorem cb_X6_100 : CB RX6 100 yX2_typeOf m_X2_typeOf 1 := ⟨cd_X2_typeOf, ml_X6_100, ini_X2, by decide +kernel⟩
theorem lk_X6_103 : Cond.fieldLink RX6 103 RX8 "runs" "[I" ∈ TB := TB_in (List.mem_of_getElem? (i := 140) (by decide +kernel)) rfl
theorem fl_X6_103 : FL RX6 103 6 6 := ⟨RX8, TX8, 10, rfl, by decide, tb_X8, lk_X6_103⟩
theorem lk_X6_85 : Cond.fieldLink RX6 85 RX8 "next" "[I" ∈ TB := TB_in (List.mem_of_getElem? (i := 134) (by decide +kernel)) rfl
theorem fl_X6_85 : FL RX6 85 6 2 := ⟨RX8, TX8, 10, rfl, by decide, tb_X8, lk_X6_85⟩
theorem kl_X6_88 : Cond.fieldLink RX6 88 RX8 "TURNED" "[I" ∈ TB := TB_in (List.mem_of_getElem? (i := 512) (by decide +kernel)) rfl
theorem lk_X6_32 : Cond.fieldLink RX6 32 RX6 "fields" "I" ∈ TB := TB_in (List.mem_of_getElem? (i := 203) (by decide +kernel)) rfl
theorem fl_X6_32 : FL RX6 32 4 2 := ⟨RX6, TX6, 8, rfl, by decide, tb_X6, lk_X6_32⟩
theorem lk_X6_36 : Cond.fieldLink RX6 36 RX6 "reached" "[I" ∈ TB := TB_in (List.mem_of_getElem? (i := 213) (by decide +kernel)) rfl
theorem fl_X6_36 : FL RX6 36 4 6 := ⟨RX6, TX6, 8, rfl, by decide, tb_X6, lk_X6_36⟩
theorem lk_X6_28 : Cond.fieldLink RX6 28 RX6 "n" "I" ∈ TB := TB_in (List.mem_of_getElem? (i := 202) (by decide +kernel)) rfl
theorem fl_X6_28 : FL RX6 28 4 1 := ⟨RX6, TX6, 8, rfl, by decide, tb_X6, lk_X6_28⟩
theorem ini_X6 : Cond.initialized RX6 ∈ TB := TB_in (List.mem_of_getElem? (i := 78) (by decide +kernel)) rfl
theorem lk_X8_18 : Cond.fieldLink RX8 18 RX8 "stepDirections" "[I" ∈ TB := TB_in (List.mem_of_getElem? (i := 141) (by decide +kernel)) rfl
theorem fl_X8_18 : FL RX8 18 6 7 := ⟨RX8, TX8, 10, rfl, by decide, tb_X8, lk_X8_18⟩
theorem lk_X8_21 : Cond.fieldLink RX8 21 RX8 "runDirections" "[I" ∈ TB := TB_in (List.mem_of_getElem? (i := 143) (by decide +kernel)) rfl
theorem fl_X8_21 : FL RX8 21 6 8 := ⟨RX8, TX8, 10, rfl, by decide, tb_X8, lk_X8_21⟩
theorem lk_X8_37 : Cond.fieldLink RX8 37 RX8 "open" "[I" ∈ TB := TB_in (List.mem_of_getElem? (i := 135) (by decide +kernel)) rfl
theorem fl_X8_37 : FL RX8 37 6 3 := ⟨RX8, TX8, 10, rfl, by decide, tb_X8, lk_X8_37⟩
theorem ini_X8 : Cond.initialized RX8 ∈ TB := TB_in (List.mem_of_getElem? (i := 76) (by decide +kernel)) rfl
theorem lk_X8_9 : Cond.fieldLink RX8 9 RX8 "steps" "[I" ∈ TB := TB_in (List.mem_of_getElem? (i := 137) (by decide +kernel)) rfl
theorem fl_X8_9 : FL RX8 9 6 5 := ⟨RX8, TX8, 10, rfl, by decide, tb_X8, lk_X8_9⟩
theorem lk_X8_15 : Cond.fieldLink RX8 15 RX8 "runs" "[I" ∈ TB := TB_in (List.mem_of_getElem? (i := 139) (by decide +kernel)) rfl
theorem fl_X8_15 : FL RX8 15 6 6 := ⟨RX8, TX8, 10, rfl, by decide, tb_X8, lk_X8_15⟩
theorem lk_X8_40 : Cond.fieldLink RX8 40 RX8 "zone" "[Z" ∈ TB := TB_in (List.mem_of_getElem? (i := 136) (by decide +kernel)) rfl
theorem fl_X8_40 : FL RX8 40 6 4 := ⟨RX8, TX8, 10, rfl, by decide, tb_X8, lk_X8_40⟩
theorem lk_X8_31 : Cond.fieldLink RX8 31 RX8 "fields" "I" ∈ TB := TB_in (List.mem_of_getElem? (i := 132) (by decide +kernel)) rfl
theorem fl_X8_31 : FL RX8 31 6 1 := ⟨RX8, TX8, 10, rfl, by decide, tb_X8, lk_X8_31⟩
theorem ga_X5 : (u_ws RX5 TX5 4).all goodWord = true := by decide +kernel
theorem tb_X5 : ∀ w ∈ u_ws RX5 TX5 4, w ∈ TB := fun w hw => TB_in ((goodIn_r (big := lw_tbl) (u_ws RX5 TX5 4) [248, 250, 252, 254] (by decide +kernel) ga_X5) w hw).1 (List.all_eq_true.mp ga_X5 w hw)
theorem lk_X5_13 : Cond.fieldLink RX5 13 RX5 "table" "LDropChase$Table;" ∈ TB := TB_in (List.mem_of_getElem? (i := 244) (by decide +kernel)) rfl
theorem fl_X5_13 : FL RX5 13 3 1 := ⟨RX5, TX5, 4, rfl, by decide, tb_X5, lk_X5_13⟩
theorem lk_X5_35 : Cond.fieldLink RX5 35 RX6 "cells" "[I" ∈ TB := TB_in (List.mem_of_getElem? (i := 205) (by decide +kernel)) rfl
theorem fl_X5_35 : FL RX5 35 4 3 := ⟨RX6, TX6, 8, rfl, by decide, tb_X6, lk_X5_35⟩
theorem ml_X5_58 : Cond.methodLink RX5 58 yX2_isRaised ∈ TB := TB_in (List.mem_of_getElem? (i := 565) (by decide +kernel)) rfl
theorem cb_X5_58 : CB RX5 58 yX2_isRaised m_X2_isRaised 1 := ⟨cd_X2_isRaised, ml_X5_58, ini_X2, by decide +kernel⟩
theorem lk_X5_62 : Cond.fieldLink RX5 62 RX6 "reached" "[I" ∈ TB := TB_in (List.mem_of_getElem? (i := 214) (by decide +kernel)) rfl
theorem fl_X5_62 : FL RX5 62 4 6 := ⟨RX6, TX6, 8, rfl, by decide, tb_X6, lk_X5_62⟩
theorem ml_X5_38 : Cond.methodLink RX5 38 yX2_sideOf ∈ TB := TB_in (List.mem_of_getElem? (i := 553) (by decide +kernel)) rfl
theorem cb_X5_38 : CB RX5 38 yX2_sideOf m_X2_sideOf 1 := ⟨cd_X2_sideOf, ml_X5_38, ini_X2, by decide +kernel⟩
theorem lk_X5_30 : Cond.fieldLink RX5 30 RX6 "mover" "I" ∈ TB := TB_in (List.mem_of_getElem? (i := 216) (by decide +kernel)) rfl
theorem fl_X5_30 : FL RX5 30 4 7 := ⟨RX6, TX6, 8, rfl, by decide, tb_X6, lk_X5_30⟩
theorem lk_X5_26 : Cond.fieldLink RX5 26 RX5 "list" "[I" ∈ TB := TB_in (List.mem_of_getElem? (i := 246) (by decide +kernel)) rfl
theorem fl_X5_26 : FL RX5 26 3 3 := ⟨RX5, TX5, 4, rfl, by decide, tb_X5, lk_X5_26⟩
theorem lk_X5_9 : Cond.fieldLink RX5 9 RX5 "ways" "LDropChase$Ways;" ∈ TB := TB_in (List.mem_of_getElem? (i := 243) (by decide +kernel)) rfl
theorem fl_X5_9 : FL RX5 9 3 0 := ⟨RX5, TX5, 4, rfl, by decide, tb_X5, lk_X5_9⟩
theorem ml_X5_69 : Cond.methodLink RX5 69 yX8_canBeRaised ∈ TB := TB_in (List.mem_of_getElem? (i := 570) (by decide +kernel)) rfl
theorem cb_X5_69 : CB RX5 69 yX8_canBeRaised m_X8_canBeRaised 3 := ⟨cd_X8_canBeRaised, ml_X5_69, ini_X8, by decide +kernel⟩
theorem ml_X5_65 : Cond.methodLink RX5 65 yX8_goesOn ∈ TB := TB_in (List.mem_of_getElem? (i := 566) (by decide +kernel)) rfl
theorem cb_X5_65 : CB RX5 65 yX8_goesOn m_X8_goesOn 2 := ⟨cd_X8_goesOn, ml_X5_65, ini_X8, by decide +kernel⟩
theorem ini_X5 : Cond.initialized RX5 ∈ TB := TB_in (List.mem_of_getElem? (i := 79) (by decide +kernel)) rfl
theorem lk_X5_87 : Cond.fieldLink RX5 87 RX8 "marks" "[I" ∈ TB := TB_in (List.mem_of_getElem? (i := 147) (by decide +kernel)) rfl
theorem fl_X5_87 : FL RX5 87 6 9 := ⟨RX8, TX8, 10, rfl, by decide, tb_X8, lk_X5_87⟩
theorem lk_X5_17 : Cond.fieldLink RX5 17 RX8 "fields" "I" ∈ TB := TB_in (List.mem_of_getElem? (i := 130) (by decide +kernel)) rfl
theorem fl_X5_17 : FL RX5 17 6 1 := ⟨RX8, TX8, 10, rfl, by decide, tb_X8, lk_X5_17⟩
theorem lk_X5_84 : Cond.fieldLink RX5 84 RX8 "n" "I" ∈ TB := TB_in (List.mem_of_getElem? (i := 129) (by decide +kernel)) rfl
theorem fl_X5_84 : FL RX5 84 6 0 := ⟨RX8, TX8, 10, rfl, by decide, tb_X8, lk_X5_84⟩
theorem ini_X3 : Cond.initialized RX3 ∈ TB := TB_in (List.mem_of_getElem? (i := 87) (by decide +kernel)) rfl
theorem ml_X5_75 : Cond.methodLink RX5 75 yX2_itemOf ∈ TB := TB_in (List.mem_of_getElem? (i := 578) (by decide +kernel)) rfl
theorem cb_X5_75 : CB RX5 75 yX2_itemOf m_X2_itemOf 2 := ⟨cd_X2_itemOf, ml_X5_75, ini_X2, by decide +kernel⟩
theorem ml_X5_78 : Cond.methodLink RX5 78 yX5_columnsShutTo ∈ TB := TB_in (List.mem_of_getElem? (i := 581) (by decide +kernel)) rfl
theorem cb_X5_78 : CB RX5 78 yX5_columnsShutTo m_X5_columnsShutTo 2 := ⟨cd_X5_columnsShutTo, ml_X5_78, ini_X5, by decide +kernel⟩
theorem ml_X5_81 : Cond.methodLink RX5 81 yX3_setting ∈ TB := TB_in (List.mem_of_getElem? (i := 585) (by decide +kernel)) rfl
theorem cb_X5_81 : CB RX5 81 yX3_setting m_X3_setting 2 := ⟨cd_X3_setting, ml_X5_81, ini_X3, by decide +kernel⟩
theorem lk_X5_23 : Cond.fieldLink RX5 23 RX5 "width" "I" ∈ TB := TB_in (List.mem_of_getElem? (i := 245) (by decide +kernel)) rfl
theorem fl_X5_23 : FL RX5 23 3 2 := ⟨RX5, TX5, 4, rfl, by decide, tb_X5, lk_X5_23⟩
theorem ml_X5_44 : Cond.methodLink RX5 44 yX6_reach ∈ TB := TB_in (List.mem_of_getElem? (i := 554) (by decide +kernel)) rfl
theorem cb_X5_44 : CB RX5 44 yX6_reach m_X6_reach 1 := ⟨cd_X6_reach, ml_X5_44, ini_X6, by decide +kernel⟩
theorem ml_X5_47 : Cond.methodLink RX5 47 yX5_addGoings ∈ TB := TB_in (List.mem_of_getElem? (i := 561) (by decide +kernel)) rfl
theorem cb_X5_47 : CB RX5 47 yX5_addGoings m_X5_addGoings 3 := ⟨cd_X5_addGoings, ml_X5_47, ini_X5, by decide +kernel⟩
theorem lk_X5_51 : Cond.fieldLink RX5 51 RX6 "hands" "[I" ∈ TB := TB_in (List.mem_of_getElem? (i := 209) (by decide +kernel)) rfl
theorem fl_X5_51 : FL RX5 51 4 4 := ⟨RX6, TX6, 8, rfl, by decide, tb_X6, lk_X5_51⟩
theorem ml_X5_54 : Cond.methodLink RX5 54 yX5_addSettings ∈ TB := TB_in (List.mem_of_getElem? (i := 574) (by decide +kernel)) rfl
theorem cb_X5_54 : CB RX5 54 yX5_addSettings m_X5_addSettings 2 := ⟨cd_X5_addSettings, ml_X5_54, ini_X5, by decide +kernel⟩
theorem ml_X6_51 : Cond.methodLink RX6 51 yX2_kindOf ∈ TB := TB_in (List.mem_of_getElem? (i := 490) (by decide +kernel)) rfl
theorem cb_X6_51 : CB RX6 51 yX2_kindOf m_X2_kindOf 1 := ⟨cd_X2_kindOf, ml_X6_51, ini_X2, by decide +kernel⟩
theorem lk_X6_75 : Cond.fieldLink RX6 75 RX6 "mover" "I" ∈ TB := TB_in (List.mem_of_getElem? (i := 218) (by decide +kernel)) rfl
theorem fl_X6_75 : FL RX6 75 4 7 := ⟨RX6, TX6, 8, rfl, by decide, tb_X6, lk_X6_75⟩
theorem fp_X6_75 : FP RX6 75 4 7 .int := ⟨RX6, TX6, 8, tyX6, rfl, by decide, tb_X6, lk_X6_75, tyX6_ok, nmX6, rfl, by decide +kernel⟩
theorem st_22_7 (a : Nat → Nat) (w : Wd) (v : Int32) : (fvs a w 22).set 7 (.int v) = fvs a (wdI w 22 7 v) 22 := rfl
theorem lk_X6_15 : Cond.fieldLink RX6 15 RX6 "kings" "[I" ∈ TB := TB_in (List.mem_of_getElem? (i := 212) (by decide +kernel)) rfl
theorem fl_X6_15 : FL RX6 15 4 5 := ⟨RX6, TX6, 8, rfl, by decide, tb_X6, lk_X6_15⟩
theorem lk_X6_9 : Cond.fieldLink RX6 9 RX6 "hands" "[I" ∈ TB := TB_in (List.mem_of_getElem? (i := 208) (by decide +kernel)) rfl
theorem fl_X6_9 : FL RX6 9 4 4 := ⟨RX6, TX6, 8, rfl, by decide, tb_X6, lk_X6_9⟩
theorem ml_X6_78 : Cond.methodLink RX6 78 yX2_itemOf ∈ TB := TB_in (List.mem_of_getElem? (i := 599) (by decide +kernel)) rfl
theorem cb_X6_78 : CB RX6 78 yX2_itemOf m_X2_itemOf 2 := ⟨cd_X2_itemOf, ml_X6_78, ini_X2, by decide +kernel⟩
theorem lk_X6_94 : Cond.fieldLink RX6 94 RX8 "runDirections" "[I" ∈ TB := TB_in (List.mem_of_getElem? (i := 144) (by decide +kernel)) rfl
theorem fl_X6_94 : FL RX6 94 6 8 := ⟨RX8, TX8, 10, rfl, by decide, tb_X8, lk_X6_94⟩
theorem lk_X6_91 : Cond.fieldLink RX6 91 RX8 "stepDirections" "[I" ∈ TB := TB_in (List.mem_of_getElem? (i := 142) (by decide +kernel)) rfl
theorem fl_X6_91 : FL RX6 91 6 7 := ⟨RX8, TX8, 10, rfl, by decide, tb_X8, lk_X6_91⟩
theorem ml_X6_81 : Cond.methodLink RX6 81 yX6_attacked ∈ TB := TB_in (List.mem_of_getElem? (i := 508) (by decide +kernel)) rfl
theorem cb_X6_81 : CB RX6 81 yX6_attacked m_X6_attacked 2 := ⟨cd_X6_attacked, ml_X6_81, ini_X6, by decide +kernel⟩
theorem ml_X5_96 : Cond.methodLink RX5 96 yX3_isSetting ∈ TB := TB_in (List.mem_of_getElem? (i := 588) (by decide +kernel)) rfl
theorem cb_X5_96 : CB RX5 96 yX3_isSetting m_X3_isSetting 1 := ⟨cd_X3_isSetting, ml_X5_96, ini_X3, by decide +kernel⟩
theorem ml_X5_99 : Cond.methodLink RX5 99 yX5_hasSecondMark ∈ TB := TB_in (List.mem_of_getElem? (i := 591) (by decide +kernel)) rfl
theorem cb_X5_99 : CB RX5 99 yX5_hasSecondMark m_X5_hasSecondMark 1 := ⟨cd_X5_hasSecondMark, ml_X5_99, ini_X5, by decide +kernel⟩
theorem ml_X5_90 : Cond.methodLink RX5 90 yX6_inCheck ∈ TB := TB_in (List.mem_of_getElem? (i := 548) (by decide +kernel)) rfl
theorem cb_X5_90 : CB RX5 90 yX6_inCheck m_X6_inCheck 1 := ⟨cd_X6_inCheck, ml_X5_90, ini_X6, by decide +kernel⟩
theorem ml_X5_93 : Cond.methodLink RX5 93 yX5_fill ∈ TB := TB_in (List.mem_of_getElem? (i := 549) (by decide +kernel)) rfl
theorem cb_X5_93 : CB RX5 93 yX5_fill m_X5_fill 1 := ⟨cd_X5_fill, ml_X5_93, ini_X5, by decide +kernel⟩
theorem ml_X5_112 : Cond.methodLink RX5 112 yX5_startOf ∈ TB := TB_in (List.mem_of_getElem? (i := 604) (by decide +kernel)) rfl
theorem cb_X5_112 : CB RX5 112 yX5_startOf m_X5_startOf 1 := ⟨cd_X5_startOf, ml_X5_112, ini_X5, by decide +kernel⟩
theorem ml_X5_102 : Cond.methodLink RX5 102 yX6_apply ∈ TB := TB_in (List.mem_of_getElem? (i := 595) (by decide +kernel)) rfl
theorem cb_X5_102 : CB RX5 102 yX6_apply m_X6_apply 1 := ⟨cd_X6_apply, ml_X5_102, ini_X6, by decide +kernel⟩
theorem ml_X5_109 : Cond.methodLink RX5 109 yX6_revert ∈ TB := TB_in (List.mem_of_getElem? (i := 608) (by decide +kernel)) rfl
theorem cb_X5_109 : CB RX5 109 yX6_revert m_X6_revert 1 := ⟨cd_X6_revert, ml_X5_109, ini_X6, by decide +kernel⟩
theorem ml_X5_106 : Cond.methodLink RX5 106 yX5_isForbiddenMate ∈ TB := TB_in (List.mem_of_getElem? (i := 600) (by decide +kernel)) rfl
theorem cb_X5_106 : CB RX5 106 yX5_isForbiddenMate m_X5_isForbiddenMate 1 := ⟨cd_X5_isForbiddenMate, ml_X5_106, ini_X5, by decide +kernel⟩
theorem lk_X0_21 : Cond.fieldLink RX0 21 RX0 "fuel" "I" ∈ TB := TB_in (List.mem_of_getElem? (i := 273) (by decide +kernel)) rfl
theorem fl_X0_21 : FL RX0 21 0 6 := ⟨RX0, TX0, 9, rfl, by decide, tb_X0, lk_X0_21⟩
theorem lk_X0_9 : Cond.fieldLink RX0 9 RX0 "codes" "[I" ∈ TB := TB_in (List.mem_of_getElem? (i := 265) (by decide +kernel)) rfl
theorem fl_X0_9 : FL RX0 9 0 2 := ⟨RX0, TX0, 9, rfl, by decide, tb_X0, lk_X0_9⟩
theorem k_X0_88 : Cond.constant RX0 88 (65535 : Int32) ∈ TB := TB_in (List.mem_of_getElem? (i := 808) (by decide +kernel)) rfl
theorem lk_X0_15 : Cond.fieldLink RX0 15 RX0 "parents" "[I" ∈ TB := TB_in (List.mem_of_getElem? (i := 267) (by decide +kernel)) rfl
theorem fl_X0_15 : FL RX0 15 0 3 := ⟨RX0, TX0, 9, rfl, by decide, tb_X0, lk_X0_15⟩
theorem ml_X0_78 : Cond.methodLink RX0 78 yX0_addNode ∈ TB := TB_in (List.mem_of_getElem? (i := 804) (by decide +kernel)) rfl
theorem cb_X0_78 : CB RX0 78 yX0_addNode m_X0_addNode 2 := ⟨cd_X0_addNode, ml_X0_78, ini_X0, by decide +kernel⟩
theorem lk_X0_25 : Cond.fieldLink RX0 25 RX0 "rules" "LDropChase$Rules;" ∈ TB := TB_in (List.mem_of_getElem? (i := 263) (by decide +kernel)) rfl
theorem fl_X0_25 : FL RX0 25 0 0 := ⟨RX0, TX0, 9, rfl, by decide, tb_X0, lk_X0_25⟩
theorem ml_X0_45 : Cond.methodLink RX0 45 yX5_fill ∈ TB := TB_in (List.mem_of_getElem? (i := 792) (by decide +kernel)) rfl
theorem cb_X0_45 : CB RX0 45 yX5_fill m_X5_fill 1 := ⟨cd_X5_fill, ml_X0_45, ini_X5, by decide +kernel⟩
theorem ml_X0_49 : Cond.methodLink RX0 49 yX5_startOf ∈ TB := TB_in (List.mem_of_getElem? (i := 793) (by decide +kernel)) rfl
theorem cb_X0_49 : CB RX0 49 yX5_startOf m_X5_startOf 1 := ⟨cd_X5_startOf, ml_X0_49, ini_X5, by decide +kernel⟩
theorem lk_X0_52 : Cond.fieldLink RX0 52 RX5 "list" "[I" ∈ TB := TB_in (List.mem_of_getElem? (i := 247) (by decide +kernel)) rfl
theorem fl_X0_52 : FL RX0 52 3 3 := ⟨RX5, TX5, 4, rfl, by decide, tb_X5, lk_X0_52⟩
theorem lk_X0_29 : Cond.fieldLink RX0 29 RX0 "table" "LDropChase$Table;" ∈ TB := TB_in (List.mem_of_getElem? (i := 264) (by decide +kernel)) rfl
theorem fl_X0_29 : FL RX0 29 0 1 := ⟨RX0, TX0, 9, rfl, by decide, tb_X0, lk_X0_29⟩
theorem ml_X0_55 : Cond.methodLink RX0 55 yX6_apply ∈ TB := TB_in (List.mem_of_getElem? (i := 794) (by decide +kernel)) rfl
theorem cb_X0_55 : CB RX0 55 yX6_apply m_X6_apply 1 := ⟨cd_X6_apply, ml_X0_55, ini_X6, by decide +kernel⟩
theorem ml_X0_68 : Cond.methodLink RX0 68 yX5_holds ∈ TB := TB_in (List.mem_of_getElem? (i := 796) (by decide +kernel)) rfl
theorem cb_X0_68 : CB RX0 68 yX5_holds m_X5_holds 1 := ⟨cd_X5_holds, ml_X0_68, ini_X5, by decide +kernel⟩
theorem ml_X0_75 : Cond.methodLink RX0 75 yX6_revert ∈ TB := TB_in (List.mem_of_getElem? (i := 810) (by decide +kernel)) rfl
theorem cb_X0_75 : CB RX0 75 yX6_revert m_X6_revert 1 := ⟨cd_X6_revert, ml_X0_75, ini_X6, by decide +kernel⟩
theorem lk_X0_18 : Cond.fieldLink RX0 18 RX0 "inside" "[I" ∈ TB := TB_in (List.mem_of_getElem? (i := 269) (by decide +kernel)) rfl
theorem fl_X0_18 : FL RX0 18 0 4 := ⟨RX0, TX0, 9, rfl, by decide, tb_X0, lk_X0_18⟩
theorem ml_X0_82 : Cond.methodLink RX0 82 yX0_hunterGoes ∈ TB := TB_in (List.mem_of_getElem? (i := 809) (by decide +kernel)) rfl
theorem cb_X0_82 (d : Nat) : CB RX0 82 yX0_hunterGoes (m_X0_hunterGoes d) 3 := ⟨cd_X0_hunterGoes, ml_X0_82, ini_X0, by decide +kernel⟩
theorem lk_X0_61 : Cond.fieldLink RX0 61 RX6 "mover" "I" ∈ TB := TB_in (List.mem_of_getElem? (i := 217) (by decide +kernel)) rfl
theorem fl_X0_61 : FL RX0 61 4 7 := ⟨RX6, TX6, 8, rfl, by decide, tb_X6, lk_X0_61⟩
theorem ml_X0_64 : Cond.methodLink RX0 64 yX6_inCheck ∈ TB := TB_in (List.mem_of_getElem? (i := 795) (by decide +kernel)) rfl
theorem cb_X0_64 : CB RX0 64 yX6_inCheck m_X6_inCheck 1 := ⟨cd_X6_inCheck, ml_X0_64, ini_X6, by decide +kernel⟩
theorem ml_X0_71 : Cond.methodLink RX0 71 yX0_answersGo ∈ TB := TB_in (List.mem_of_getElem? (i := 800) (by decide +kernel)) rfl
theorem cb_X0_71 (d : Nat) : CB RX0 71 yX0_answersGo (m_X0_answersGo d) 4 := ⟨cd_X0_answersGo, ml_X0_71, ini_X0, by decide +kernel⟩
theorem ml_X5_124 : Cond.methodLink RX5 124 yX5_reaches ∈ TB := TB_in (List.mem_of_getElem? (i := 698) (by decide +kernel)) rfl
theorem cb_X5_124 : CB RX5 124 yX5_reaches m_X5_reaches 2 := ⟨cd_X5_reaches, ml_X5_124, ini_X5, by decide +kernel⟩
theorem ml_X5_127 : Cond.methodLink RX5 127 yX3_raises ∈ TB := TB_in (List.mem_of_getElem? (i := 702) (by decide +kernel)) rfl
theorem cb_X5_127 : CB RX5 127 yX3_raises m_X3_raises 1 := ⟨cd_X3_raises, ml_X5_127, ini_X3, by decide +kernel⟩
theorem ml_X6_61 : Cond.methodLink RX6 61 yX3_toOf ∈ TB := TB_in (List.mem_of_getElem? (i := 707) (by decide +kernel)) rfl
theorem cb_X6_61 : CB RX6 61 yX3_toOf m_X3_toOf 1 := ⟨cd_X3_toOf, ml_X6_61, ini_X3, by decide +kernel⟩
theorem ml_X5_118 : Cond.methodLink RX5 118 yX5_faultOfGoing ∈ TB := TB_in (List.mem_of_getElem? (i := 694) (by decide +kernel)) rfl
theorem cb_X5_118 : CB RX5 118 yX5_faultOfGoing m_X5_faultOfGoing 1 := ⟨cd_X5_faultOfGoing, ml_X5_118, ini_X5, by decide +kernel⟩
theorem ml_X5_121 : Cond.methodLink RX5 121 yX6_withTaken ∈ TB := TB_in (List.mem_of_getElem? (i := 703) (by decide +kernel)) rfl
theorem cb_X5_121 : CB RX5 121 yX6_withTaken m_X6_withTaken 1 := ⟨cd_X6_withTaken, ml_X5_121, ini_X6, by decide +kernel⟩
theorem ml_X5_115 : Cond.methodLink RX5 115 yX5_faultOfSetting ∈ TB := TB_in (List.mem_of_getElem? (i := 690) (by decide +kernel)) rfl
theorem cb_X5_115 : CB RX5 115 yX5_faultOfSetting m_X5_faultOfSetting 2 := ⟨cd_X5_faultOfSetting, ml_X5_115, ini_X5, by decide +kernel⟩
theorem ml_X0_98 : Cond.methodLink RX0 98 yX5_listLawful ∈ TB := TB_in (List.mem_of_getElem? (i := 850) (by decide +kernel)) rfl
theorem cb_X0_98 : CB RX0 98 yX5_listLawful m_X5_listLawful 1 := ⟨cd_X5_listLawful, ml_X0_98, ini_X5, by decide +kernel⟩
theorem ml_X0_101 : Cond.methodLink RX0 101 yX0_answersIn ∈ TB := TB_in (List.mem_of_getElem? (i := 851) (by decide +kernel)) rfl
theorem cb_X0_101 : CB RX0 101 yX0_answersIn m_X0_answersIn 1 := ⟨cd_X0_answersIn, ml_X0_101, ini_X0, by decide +kernel⟩
theorem ml_X0_104 : Cond.methodLink RX0 104 yX5_listed ∈ TB := TB_in (List.mem_of_getElem? (i := 855) (by decide +kernel)) rfl
theorem cb_X0_104 : CB RX0 104 yX5_listed m_X5_listed 2 := ⟨cd_X5_listed, ml_X0_104, ini_X5, by decide +kernel⟩
theorem ml_X0_107 : Cond.methodLink RX0 107 yX0_firstFault ∈ TB := TB_in (List.mem_of_getElem? (i := 856) (by decide +kernel)) rfl
theorem cb_X0_107 (d : Nat) : CB RX0 107 yX0_firstFault (m_X0_firstFault d) 2 := ⟨cd_X0_firstFault, ml_X0_107, ini_X0, by decide +kernel⟩
theorem ml_X0_89 : Cond.methodLink RX0 89 yX5_faultOf ∈ TB := TB_in (List.mem_of_getElem? (i := 844) (by decide +kernel)) rfl
theorem cb_X0_89 : CB RX0 89 yX5_faultOf m_X5_faultOf 1 := ⟨cd_X5_faultOf, ml_X0_89, ini_X5, by decide +kernel⟩
theorem ml_X0_92 : Cond.methodLink RX0 92 yX6_withTaken ∈ TB := TB_in (List.mem_of_getElem? (i := 845) (by decide +kernel)) rfl
theorem cb_X0_92 : CB RX0 92 yX6_withTaken m_X6_withTaken 1 := ⟨cd_X6_withTaken, ml_X0_92, ini_X6, by decide +kernel⟩
theorem ml_X0_95 : Cond.methodLink RX0 95 yX0_faultInAnswers ∈ TB := TB_in (List.mem_of_getElem? (i := 846) (by decide +kernel)) rfl
theorem cb_X0_95 (d : Nat) : CB RX0 95 yX0_faultInAnswers (m_X0_faultInAnswers d) 2 := ⟨cd_X0_faultInAnswers, ml_X0_95, ini_X0, by decide +kernel⟩
theorem ini_X1 : Cond.initialized RX1 ∈ TB := TB_in (List.mem_of_getElem? (i := 77) (by decide +kernel)) rfl
theorem ga_X1 : (u_ws RX1 TX1 4).all goodWord = true := by decide +kernel
theorem tb_X1 : ∀ w ∈ u_ws RX1 TX1 4, w ∈ TB := fun w hw => TB_in ((goodIn_r (big := lw_tbl) (u_ws RX1 TX1 4) [186, 188, 190, 192] (by decide +kernel) ga_X1) w hw).1 (List.all_eq_true.mp ga_X1 w hw)
theorem lk_X1_9 : Cond.fieldLink RX1 9 RX1 "n" "I" ∈ TB := TB_in (List.mem_of_getElem? (i := 179) (by decide +kernel)) rfl
theorem fl_X1_9 : FL RX1 9 1 0 := ⟨RX1, TX1, 4, rfl, by decide, tb_X1, lk_X1_9⟩
theorem lk_X1_19 : Cond.fieldLink RX1 19 RX1 "sizes" "[I" ∈ TB := TB_in (List.mem_of_getElem? (i := 182) (by decide +kernel)) rfl
theorem fl_X1_19 : FL RX1 19 1 2 := ⟨RX1, TX1, 4, rfl, by decide, tb_X1, lk_X1_19⟩
theorem lk_X1_15 : Cond.fieldLink RX1 15 RX1 "forms" "[I" ∈ TB := TB_in (List.mem_of_getElem? (i := 180) (by decide +kernel)) rfl
theorem fl_X1_15 : FL RX1 15 1 1 := ⟨RX1, TX1, 4, rfl, by decide, tb_X1, lk_X1_15⟩
theorem lk_X1_24 : Cond.fieldLink RX1 24 RX1 "items" "[[I" ∈ TB := TB_in (List.mem_of_getElem? (i := 184) (by decide +kernel)) rfl
theorem fl_X1_24 : FL RX1 24 1 3 := ⟨RX1, TX1, 4, rfl, by decide, tb_X1, lk_X1_24⟩
theorem ml_X1_27 : Cond.methodLink RX1 27 yX1_isLost ∈ TB := TB_in (List.mem_of_getElem? (i := 441) (by decide +kernel)) rfl
theorem cb_X1_27 : CB RX1 27 yX1_isLost m_X1_isLost 1 := ⟨cd_X1_isLost, ml_X1_27, ini_X1, by decide +kernel⟩
theorem ml_X3_11 : Cond.methodLink RX3 11 yX3_isSetting ∈ TB := TB_in (List.mem_of_getElem? (i := 659) (by decide +kernel)) rfl
theorem cb_X3_11 : CB RX3 11 yX3_isSetting m_X3_isSetting 1 := ⟨cd_X3_isSetting, ml_X3_11, ini_X3, by decide +kernel⟩
theorem ml_X3_15 : Cond.methodLink RX3 15 yX2_kindOf ∈ TB := TB_in (List.mem_of_getElem? (i := 678) (by decide +kernel)) rfl
theorem cb_X3_15 : CB RX3 15 yX2_kindOf m_X2_kindOf 1 := ⟨cd_X2_kindOf, ml_X3_15, ini_X2, by decide +kernel⟩
theorem ga_X4 : (u_ws RX4 TX4 9).all goodWord = true := by decide +kernel
theorem tb_X4 : ∀ w ∈ u_ws RX4 TX4 9, w ∈ TB := fun w hw => TB_in ((goodIn_r (big := lw_tbl) (u_ws RX4 TX4 9) [335, 337, 339, 341, 343, 345, 347, 349, 351] (by decide +kernel) ga_X4) w hw).1 (List.all_eq_true.mp ga_X4 w hw)
theorem lk_X4_21 : Cond.fieldLink RX4 21 RX4 "table" "LDropChase$Table;" ∈ TB := TB_in (List.mem_of_getElem? (i := 322) (by decide +kernel)) rfl
theorem fl_X4_21 : FL RX4 21 2 0 := ⟨RX4, TX4, 9, rfl, by decide, tb_X4, lk_X4_21⟩
theorem lk_X4_80 : Cond.fieldLink RX4 80 RX6 "cells" "[I" ∈ TB := TB_in (List.mem_of_getElem? (i := 207) (by decide +kernel)) rfl
theorem fl_X4_80 : FL RX4 80 4 3 := ⟨RX6, TX6, 8, rfl, by decide, tb_X6, lk_X4_80⟩
theorem mn1 : Cond.static Lib.Math.min.name ∈ TB := TB_in (by decide +kernel) rfl
theorem mn2 : Cond.initialized "java/lang/Math" ∈ TB := TB_in (by decide +kernel) rfl
theorem mn3 : Cond.code Lib.Math.min.name Lib.Math.min.code 2 (some .int) ∈ TB := TB_in (by decide +kernel) rfl
theorem mnl_X4_83 : Cond.methodLink RX4 83 Lib.Math.min.name ∈ TB := TB_in (by decide +kernel) rfl
theorem ini_X4 : Cond.initialized RX4 ∈ TB := TB_in (List.mem_of_getElem? (i := 82) (by decide +kernel)) rfl
theorem lk_X4_89 : Cond.fieldLink RX4 89 RX6 "hands" "[I" ∈ TB := TB_in (List.mem_of_getElem? (i := 211) (by decide +kernel)) rfl
theorem fl_X4_89 : FL RX4 89 4 4 := ⟨RX6, TX6, 8, rfl, by decide, tb_X6, lk_X4_89⟩
theorem lk_X4_17 : Cond.fieldLink RX4 17 RX4 "stands" "[J" ∈ TB := TB_in (List.mem_of_getElem? (i := 325) (by decide +kernel)) rfl
theorem fl_X4_17 : FL RX4 17 2 3 := ⟨RX4, TX4, 9, rfl, by decide, tb_X4, lk_X4_17⟩
theorem lk_X4_64 : Cond.fieldLink RX4 64 RX4 "times" "I" ∈ TB := TB_in (List.mem_of_getElem? (i := 333) (by decide +kernel)) rfl
theorem fl_X4_64 : FL RX4 64 2 8 := ⟨RX4, TX4, 9, rfl, by decide, tb_X4, lk_X4_64⟩
theorem fp_X4_64 : FP RX4 64 2 8 .int := ⟨RX4, TX4, 9, tyX4, rfl, by decide, tb_X4, lk_X4_64, tyX4_ok, nmX4, rfl, by decide +kernel⟩
theorem lk_X4_34 : Cond.fieldLink RX4 34 RX4 "done" "I" ∈ TB := TB_in (List.mem_of_getElem? (i := 328) (by decide +kernel)) rfl
theorem fl_X4_34 : FL RX4 34 2 6 := ⟨RX4, TX4, 9, rfl, by decide, tb_X4, lk_X4_34⟩
theorem ml_X4_92 : Cond.methodLink RX4 92 yX4_isSameStand ∈ TB := TB_in (List.mem_of_getElem? (i := 536) (by decide +kernel)) rfl
theorem cb_X4_92 : CB RX4 92 yX4_isSameStand m_X4_isSameStand 2 := ⟨cd_X4_isSameStand, ml_X4_92, ini_X4, by decide +kernel⟩
theorem lk_X4_70 : Cond.fieldLink RX4 70 RX4 "firstTime" "I" ∈ TB := TB_in (List.mem_of_getElem? (i := 327) (by decide +kernel)) rfl
theorem fl_X4_70 : FL RX4 70 2 5 := ⟨RX4, TX4, 9, rfl, by decide, tb_X4, lk_X4_70⟩
theorem fp_X4_70 : FP RX4 70 2 5 .int := ⟨RX4, TX4, 9, tyX4, rfl, by decide, tb_X4, lk_X4_70, tyX4_ok, nmX4, rfl, by decide +kernel⟩
theorem ml_X4_73 : Cond.methodLink RX4 73 yX4_packedFields ∈ TB := TB_in (List.mem_of_getElem? (i := 521) (by decide +kernel)) rfl
theorem cb_X4_73 : CB RX4 73 yX4_packedFields m_X4_packedFields 1 := ⟨cd_X4_packedFields, ml_X4_73, ini_X4, by decide +kernel⟩
theorem ml_X4_77 : Cond.methodLink RX4 77 yX4_packedHand ∈ TB := TB_in (List.mem_of_getElem? (i := 528) (by decide +kernel)) rfl
theorem cb_X4_77 : CB RX4 77 yX4_packedHand m_X4_packedHand 1 := ⟨cd_X4_packedHand, ml_X4_77, ini_X4, by decide +kernel⟩
theorem ml_X4_57 : Cond.methodLink RX4 57 yX4_countTimes ∈ TB := TB_in (List.mem_of_getElem? (i := 532) (by decide +kernel)) rfl
theorem cb_X4_57 : CB RX4 57 yX4_countTimes m_X4_countTimes 0 := ⟨cd_X4_countTimes, ml_X4_57, ini_X4, by decide +kernel⟩
theorem lk_X4_25 : Cond.fieldLink RX4 25 RX6 "mover" "I" ∈ TB := TB_in (List.mem_of_getElem? (i := 215) (by decide +kernel)) rfl
theorem fl_X4_25 : FL RX4 25 4 7 := ⟨RX6, TX6, 8, rfl, by decide, tb_X6, lk_X4_25⟩
theorem lk_X4_31 : Cond.fieldLink RX4 31 RX4 "starter" "I" ∈ TB := TB_in (List.mem_of_getElem? (i := 326) (by decide +kernel)) rfl
theorem fl_X4_31 : FL RX4 31 2 4 := ⟨RX4, TX4, 9, rfl, by decide, tb_X4, lk_X4_31⟩
theorem fp_X4_31 : FP RX4 31 2 4 .int := ⟨RX4, TX4, 9, tyX4, rfl, by decide, tb_X4, lk_X4_31, tyX4_ok, nmX4, rfl, by decide +kernel⟩
theorem fp_X4_34 : FP RX4 34 2 6 .int := ⟨RX4, TX4, 9, tyX4, rfl, by decide, tb_X4, lk_X4_34, tyX4_ok, nmX4, rfl, by decide +kernel⟩
theorem lk_X4_37 : Cond.fieldLink RX4 37 RX4 "known" "I" ∈ TB := TB_in (List.mem_of_getElem? (i := 331) (by decide +kernel)) rfl
theorem fl_X4_37 : FL RX4 37 2 7 := ⟨RX4, TX4, 9, rfl, by decide, tb_X4, lk_X4_37⟩
theorem fp_X4_37 : FP RX4 37 2 7 .int := ⟨RX4, TX4, 9, tyX4, rfl, by decide, tb_X4, lk_X4_37, tyX4_ok, nmX4, rfl, by decide +kernel⟩
theorem ml_X4_40 : Cond.methodLink RX4 40 yX4_keepStand ∈ TB := TB_in (List.mem_of_getElem? (i := 517) (by decide +kernel)) rfl
theorem cb_X4_40 : CB RX4 40 yX4_keepStand m_X4_keepStand 0 := ⟨cd_X4_keepStand, ml_X4_40, ini_X4, by decide +kernel⟩
theorem lk_X4_9 : Cond.fieldLink RX4 9 RX4 "codes" "[I" ∈ TB := TB_in (List.mem_of_getElem? (i := 323) (by decide +kernel)) rfl
theorem fl_X4_9 : FL RX4 9 2 1 := ⟨RX4, TX4, 9, rfl, by decide, tb_X4, lk_X4_9⟩
theorem ml_X4_46 : Cond.methodLink RX4 46 yX6_apply ∈ TB := TB_in (List.mem_of_getElem? (i := 748) (by decide +kernel)) rfl
theorem cb_X4_46 : CB RX4 46 yX6_apply m_X6_apply 1 := ⟨cd_X6_apply, ml_X4_46, ini_X6, by decide +kernel⟩
theorem lk_X4_13 : Cond.fieldLink RX4 13 RX4 "gaveCheck" "[Z" ∈ TB := TB_in (List.mem_of_getElem? (i := 324) (by decide +kernel)) rfl
theorem fl_X4_13 : FL RX4 13 2 2 := ⟨RX4, TX4, 9, rfl, by decide, tb_X4, lk_X4_13⟩
theorem ml_X4_50 : Cond.methodLink RX4 50 yX6_inCheck ∈ TB := TB_in (List.mem_of_getElem? (i := 749) (by decide +kernel)) rfl
theorem cb_X4_50 : CB RX4 50 yX6_inCheck m_X6_inCheck 1 := ⟨cd_X6_inCheck, ml_X4_50, ini_X6, by decide +kernel⟩
theorem ml_X4_43 : Cond.methodLink RX4 43 yX4_repeat ∈ TB := TB_in (List.mem_of_getElem? (i := 744) (by decide +kernel)) rfl
theorem cb_X4_43 : CB RX4 43 yX4_repeat m_X4_repeat 0 := ⟨cd_X4_repeat, ml_X4_43, ini_X4, by decide +kernel⟩
theorem ml_X4_54 : Cond.methodLink RX4 54 yX6_revert ∈ TB := TB_in (List.mem_of_getElem? (i := 758) (by decide +kernel)) rfl
theorem cb_X4_54 : CB RX4 54 yX6_revert m_X6_revert 1 := ⟨cd_X6_revert, ml_X4_54, ini_X6, by decide +kernel⟩
theorem ml_X4_67 : Cond.methodLink RX4 67 yX4_onlyChecksOf ∈ TB := TB_in (List.mem_of_getElem? (i := 736) (by decide +kernel)) rfl
theorem cb_X4_67 : CB RX4 67 yX4_onlyChecksOf m_X4_onlyChecksOf 1 := ⟨cd_X4_onlyChecksOf, ml_X4_67, ini_X4, by decide +kernel⟩
theorem ml_X4_60 : Cond.methodLink RX4 60 yX4_ending ∈ TB := TB_in (List.mem_of_getElem? (i := 926) (by decide +kernel)) rfl
theorem cb_X4_60 : CB RX4 60 yX4_ending m_X4_ending 0 := ⟨cd_X4_ending, ml_X4_60, ini_X4, by decide +kernel⟩
theorem ml_X5_130 : Cond.methodLink RX5 130 yX5_listLawful ∈ TB := TB_in (List.mem_of_getElem? (i := 721) (by decide +kernel)) rfl
theorem cb_X5_130 : CB RX5 130 yX5_listLawful m_X5_listLawful 1 := ⟨cd_X5_listLawful, ml_X5_130, ini_X5, by decide +kernel⟩
theorem ml_X5_133 : Cond.methodLink RX5 133 yX5_listed ∈ TB := TB_in (List.mem_of_getElem? (i := 722) (by decide +kernel)) rfl
theorem cb_X5_133 : CB RX5 133 yX5_listed m_X5_listed 2 := ⟨cd_X5_listed, ml_X5_133, ini_X5, by decide +kernel⟩
theorem ml_X5_136 : Cond.methodLink RX5 136 yX5_countRows ∈ TB := TB_in (List.mem_of_getElem? (i := 723) (by decide +kernel)) rfl
theorem cb_X5_136 (d : Nat) : CB RX5 136 yX5_countRows (m_X5_countRows d) 3 := ⟨cd_X5_countRows, ml_X5_136, ini_X5, by decide +kernel⟩
theorem ml_X6_39 : Cond.methodLink RX6 39 yX1_told ∈ TB := TB_in (List.mem_of_getElem? (i := 483) (by decide +kernel)) rfl
theorem cb_X6_39 : CB RX6 39 yX1_told m_X1_told 2 := ⟨cd_X1_told, ml_X6_39, ini_X1, by decide +kernel⟩
theorem ml_X6_45 : Cond.methodLink RX6 45 yX2_isRaised ∈ TB := TB_in (List.mem_of_getElem? (i := 487) (by decide +kernel)) rfl
theorem cb_X6_45 : CB RX6 45 yX2_isRaised m_X2_isRaised 1 := ⟨cd_X2_isRaised, ml_X6_45, ini_X2, by decide +kernel⟩
theorem ml_X6_55 : Cond.methodLink RX6 55 yX8_hasRaised ∈ TB := TB_in (List.mem_of_getElem? (i := 493) (by decide +kernel)) rfl
theorem cb_X6_55 : CB RX6 55 yX8_hasRaised m_X8_hasRaised 1 := ⟨cd_X8_hasRaised, ml_X6_55, ini_X8, by decide +kernel⟩
theorem ml_X6_66 : Cond.methodLink RX6 66 yX3_isSetting ∈ TB := TB_in (List.mem_of_getElem? (i := 670) (by decide +kernel)) rfl
theorem cb_X6_66 : CB RX6 66 yX3_isSetting m_X3_isSetting 1 := ⟨cd_X3_isSetting, ml_X6_66, ini_X3, by decide +kernel⟩
theorem ml_X6_72 : Cond.methodLink RX6 72 yX3_fromOf ∈ TB := TB_in (List.mem_of_getElem? (i := 674) (by decide +kernel)) rfl
theorem cb_X6_72 : CB RX6 72 yX3_fromOf m_X3_fromOf 1 := ⟨cd_X3_fromOf, ml_X6_72, ini_X3, by decide +kernel⟩
theorem ml_X6_69 : Cond.methodLink RX6 69 yX3_setKindOf ∈ TB := TB_in (List.mem_of_getElem? (i := 671) (by decide +kernel)) rfl
theorem cb_X6_69 : CB RX6 69 yX3_setKindOf m_X3_setKindOf 1 := ⟨cd_X3_setKindOf, ml_X6_69, ini_X3, by decide +kernel⟩
theorem ga_X7 : (u_ws RX7 TX7 3).all goodWord = true := by decide +kernel
theorem tb_X7 : ∀ w ∈ u_ws RX7 TX7 3, w ∈ TB := fun w hw => TB_in ((goodIn_r (big := lw_tbl) (u_ws RX7 TX7 3) [309, 311, 313] (by decide +kernel) ga_X7) w hw).1 (List.all_eq_true.mp ga_X7 w hw)
theorem lk_X7_19 : Cond.fieldLink RX7 19 RX7 "size" "I" ∈ TB := TB_in (List.mem_of_getElem? (i := 307) (by decide +kernel)) rfl
theorem fl_X7_19 : FL RX7 19 5 2 := ⟨RX7, TX7, 3, rfl, by decide, tb_X7, lk_X7_19⟩
theorem lk_X7_11 : Cond.fieldLink RX7 11 RX7 "bytes" "[I" ∈ TB := TB_in (List.mem_of_getElem? (i := 305) (by decide +kernel)) rfl
theorem fl_X7_11 : FL RX7 11 5 1 := ⟨RX7, TX7, 3, rfl, by decide, tb_X7, lk_X7_11⟩
theorem fp_X7_19 : FP RX7 19 5 2 .int := ⟨RX7, TX7, 3, tyX7, rfl, by decide, tb_X7, lk_X7_19, tyX7_ok, nmX7, rfl, by decide +kernel⟩
theorem st_33_2 (a : Nat → Nat) (w : Wd) (v : Int32) : (fvs a w 33).set 2 (.int v) = fvs a (wdI w 33 2 v) 33 := rfl
theorem ini_X7 : Cond.initialized RX7 ∈ TB := TB_in (List.mem_of_getElem? (i := 81) (by decide +kernel)) rfl
theorem lk_X7_15 : Cond.fieldLink RX7 15 RX7 "n" "I" ∈ TB := TB_in (List.mem_of_getElem? (i := 304) (by decide +kernel)) rfl
theorem fl_X7_15 : FL RX7 15 5 0 := ⟨RX7, TX7, 3, rfl, by decide, tb_X7, lk_X7_15⟩
theorem ml_X7_27 : Cond.methodLink RX7 27 yX7_add ∈ TB := TB_in (List.mem_of_getElem? (i := 865) (by decide +kernel)) rfl
theorem cb_X7_27 : CB RX7 27 yX7_add m_X7_add 1 := ⟨cd_X7_add, ml_X7_27, ini_X7, by decide +kernel⟩
theorem ml_X7_38 : Cond.methodLink RX7 38 yX3_isSetting ∈ TB := TB_in (List.mem_of_getElem? (i := 877) (by decide +kernel)) rfl
theorem cb_X7_38 : CB RX7 38 yX3_isSetting m_X3_isSetting 1 := ⟨cd_X3_isSetting, ml_X7_38, ini_X3, by decide +kernel⟩
theorem ml_X7_47 : Cond.methodLink RX7 47 yX3_fromOf ∈ TB := TB_in (List.mem_of_getElem? (i := 879) (by decide +kernel)) rfl
theorem cb_X7_47 : CB RX7 47 yX3_fromOf m_X3_fromOf 1 := ⟨cd_X3_fromOf, ml_X7_47, ini_X3, by decide +kernel⟩
theorem ml_X7_50 : Cond.methodLink RX7 50 yX7_addField ∈ TB := TB_in (List.mem_of_getElem? (i := 880) (by decide +kernel)) rfl
theorem cb_X7_50 : CB RX7 50 yX7_addField m_X7_addField 1 := ⟨cd_X7_addField, ml_X7_50, ini_X7, by decide +kernel⟩
theorem ml_X7_53 : Cond.methodLink RX7 53 yX3_toOf ∈ TB := TB_in (List.mem_of_getElem? (i := 884) (by decide +kernel)) rfl
theorem cb_X7_53 : CB RX7 53 yX3_toOf m_X3_toOf 1 := ⟨cd_X3_toOf, ml_X7_53, ini_X3, by decide +kernel⟩
theorem ml_X7_56 : Cond.methodLink RX7 56 yX3_raises ∈ TB := TB_in (List.mem_of_getElem? (i := 885) (by decide +kernel)) rfl
theorem cb_X7_56 : CB RX7 56 yX3_raises m_X3_raises 1 := ⟨cd_X3_raises, ml_X7_56, ini_X3, by decide +kernel⟩
theorem ml_X7_44 : Cond.methodLink RX7 44 yX3_setKindOf ∈ TB := TB_in (List.mem_of_getElem? (i := 878) (by decide +kernel)) rfl
theorem cb_X7_44 : CB RX7 44 yX3_setKindOf m_X3_setKindOf 1 := ⟨cd_X3_setKindOf, ml_X7_44, ini_X3, by decide +kernel⟩
theorem lk_X7_22 : Cond.fieldLink RX7 22 RX4 "done" "I" ∈ TB := TB_in (List.mem_of_getElem? (i := 329) (by decide +kernel)) rfl
theorem fl_X7_22 : FL RX7 22 2 6 := ⟨RX4, TX4, 9, rfl, by decide, tb_X4, lk_X7_22⟩
theorem ml_X7_31 : Cond.methodLink RX7 31 yX4_codeOf ∈ TB := TB_in (List.mem_of_getElem? (i := 869) (by decide +kernel)) rfl
theorem cb_X7_31 : CB RX7 31 yX4_codeOf m_X4_codeOf 1 := ⟨cd_X4_codeOf, ml_X7_31, ini_X4, by decide +kernel⟩
theorem ml_X7_35 : Cond.methodLink RX7 35 yX7_addMove ∈ TB := TB_in (List.mem_of_getElem? (i := 873) (by decide +kernel)) rfl
theorem cb_X7_35 : CB RX7 35 yX7_addMove m_X7_addMove 1 := ⟨cd_X7_addMove, ml_X7_35, ini_X7, by decide +kernel⟩
theorem ini_X9 : Cond.initialized RX9 ∈ TB := TB_in (List.mem_of_getElem? (i := 75) (by decide +kernel)) rfl
theorem ml_X7_59 : Cond.methodLink RX7 59 yX7_fieldAt ∈ TB := TB_in (List.mem_of_getElem? (i := 915) (by decide +kernel)) rfl
theorem cb_X7_59 : CB RX7 59 yX7_fieldAt m_X7_fieldAt 1 := ⟨cd_X7_fieldAt, ml_X7_59, ini_X7, by decide +kernel⟩
theorem ml_X7_69 : Cond.methodLink RX7 69 yX3_going ∈ TB := TB_in (List.mem_of_getElem? (i := 921) (by decide +kernel)) rfl
theorem cb_X7_69 : CB RX7 69 yX3_going m_X3_going 3 := ⟨cd_X3_going, ml_X7_69, ini_X3, by decide +kernel⟩
theorem cn_X7_62 : CN RX7 62 yX9_isHandKind m_X9_isHandKind 1 := ⟨cd_X9_isHandKind, by decide +kernel, ini_X9, by decide +kernel⟩
theorem ml_X7_65 : Cond.methodLink RX7 65 yX3_setting ∈ TB := TB_in (List.mem_of_getElem? (i := 920) (by decide +kernel)) rfl
theorem cb_X7_65 : CB RX7 65 yX3_setting m_X3_setting 2 := ⟨cd_X3_setting, ml_X7_65, ini_X3, by decide +kernel⟩
theorem lk_X8_27 : Cond.fieldLink RX8 27 RX8 "n" "I" ∈ TB := TB_in (List.mem_of_getElem? (i := 128) (by decide +kernel)) rfl
theorem fl_X8_27 : FL RX8 27 6 0 := ⟨RX8, TX8, 10, rfl, by decide, tb_X8, lk_X8_27⟩
theorem kl_X8_61 : Cond.fieldLink RX8 61 RX8 "ROWS_MORE" "[I" ∈ TB := TB_in (List.mem_of_getElem? (i := 106) (by decide +kernel)) rfl
theorem kl_X8_64 : Cond.fieldLink RX8 64 RX8 "COLUMNS_MORE" "[I" ∈ TB := TB_in (List.mem_of_getElem? (i := 108) (by decide +kernel)) rfl
theorem lk_X8_34 : Cond.fieldLink RX8 34 RX8 "next" "[I" ∈ TB := TB_in (List.mem_of_getElem? (i := 133) (by decide +kernel)) rfl
theorem fl_X8_34 : FL RX8 34 6 2 := ⟨RX8, TX8, 10, rfl, by decide, tb_X8, lk_X8_34⟩
theorem kl_X8_71 : Cond.fieldLink RX8 71 RX8 "TURNED" "[I" ∈ TB := TB_in (List.mem_of_getElem? (i := 125) (by decide +kernel)) rfl
theorem ml_X8_67 : Cond.methodLink RX8 67 yX8_turnedBits ∈ TB := TB_in (List.mem_of_getElem? (i := 122) (by decide +kernel)) rfl
theorem cb_X8_67 : CB RX8 67 yX8_turnedBits m_X8_turnedBits 1 := ⟨cd_X8_turnedBits, ml_X8_67, ini_X8, by decide +kernel⟩
theorem ml_X9_79 : Cond.methodLink RX9 79 yX8_areSteps ∈ TB := TB_in (List.mem_of_getElem? (i := 399) (by decide +kernel)) rfl
theorem cb_X9_79 : CB RX9 79 yX8_areSteps m_X8_areSteps 1 := ⟨cd_X8_areSteps, ml_X9_79, ini_X8, by decide +kernel⟩
theorem ml_X9_83 : Cond.methodLink RX9 83 yX8_areRuns ∈ TB := TB_in (List.mem_of_getElem? (i := 402) (by decide +kernel)) rfl
theorem cb_X9_83 : CB RX9 83 yX8_areRuns m_X8_areRuns 1 := ⟨cd_X8_areRuns, ml_X9_83, ini_X8, by decide +kernel⟩
theorem ga_X9 : (u_ws RX9 TX9 13).all goodWord = true := by decide +kernel
theorem tb_X9 : ∀ w ∈ u_ws RX9 TX9 13, w ∈ TB := fun w hw => TB_in ((goodIn_r (big := lw_tbl) (u_ws RX9 TX9 13) [368, 370, 372, 374, 376, 378, 380, 382, 384, 386, 388, 390, 392] (by decide +kernel) ga_X9) w hw).1 (List.all_eq_true.mp ga_X9 w hw)
theorem lk_X9_86 : Cond.fieldLink RX9 86 RX9 "standing" "Z" ∈ TB := TB_in (List.mem_of_getElem? (i := 365) (by decide +kernel)) rfl
theorem fl_X9_86 : FL RX9 86 7 10 := ⟨RX9, TX9, 13, rfl, by decide, tb_X9, lk_X9_86⟩
theorem lk_X9_22 : Cond.fieldLink RX9 22 RX9 "ways" "LDropChase$Ways;" ∈ TB := TB_in (List.mem_of_getElem? (i := 356) (by decide +kernel)) rfl
theorem fl_X9_22 : FL RX9 22 7 1 := ⟨RX9, TX9, 13, rfl, by decide, tb_X9, lk_X9_22⟩
theorem ml_X9_90 : Cond.methodLink RX9 90 yX8_tell ∈ TB := TB_in (List.mem_of_getElem? (i := 405) (by decide +kernel)) rfl
theorem cb_X9_90 : CB RX9 90 yX8_tell m_X8_tell 3 := ⟨cd_X8_tell, ml_X9_90, ini_X8, by decide +kernel⟩
theorem lk_X9_94 : Cond.fieldLink RX9 94 RX8 "marks" "[I" ∈ TB := TB_in (List.mem_of_getElem? (i := 146) (by decide +kernel)) rfl
theorem fl_X9_94 : FL RX9 94 6 9 := ⟨RX8, TX8, 10, rfl, by decide, tb_X8, lk_X9_94⟩
theorem lk_X9_129 : Cond.fieldLink RX9 129 RX9 "latestFinding" "I" ∈ TB := TB_in (List.mem_of_getElem? (i := 367) (by decide +kernel)) rfl
theorem fl_X9_129 : FL RX9 129 7 12 := ⟨RX9, TX9, 13, rfl, by decide, tb_X9, lk_X9_129⟩
theorem fp_X9_129 : FP RX9 129 7 12 .int := ⟨RX9, TX9, 13, tyX9, rfl, by decide, tb_X9, lk_X9_129, tyX9_ok, nmX9, rfl, by decide +kernel⟩
theorem st_0_12 (a : Nat → Nat) (w : Wd) (v : Int32) : (fvs a w 0).set 12 (.int v) = fvs a (wdI w 0 12 v) 0 := rfl
theorem lk_X9_29 : Cond.fieldLink RX9 29 RX9 "lines" "LDropChase$Lines;" ∈ TB := TB_in (List.mem_of_getElem? (i := 357) (by decide +kernel)) rfl
theorem fl_X9_29 : FL RX9 29 7 2 := ⟨RX9, TX9, 13, rfl, by decide, tb_X9, lk_X9_29⟩
theorem ml_X9_97 : Cond.methodLink RX9 97 yX1_isLine ∈ TB := TB_in (List.mem_of_getElem? (i := 410) (by decide +kernel)) rfl
theorem cb_X9_97 : CB RX9 97 yX1_isLine m_X1_isLine 1 := ⟨cd_X1_isLine, ml_X9_97, ini_X1, by decide +kernel⟩
theorem ml_X9_100 : Cond.methodLink RX9 100 yX1_isForm ∈ TB := TB_in (List.mem_of_getElem? (i := 414) (by decide +kernel)) rfl
theorem cb_X9_100 : CB RX9 100 yX1_isForm m_X1_isForm 1 := ⟨cd_X1_isForm, ml_X9_100, ini_X1, by decide +kernel⟩
theorem ml_X9_107 : Cond.methodLink RX9 107 yX1_renew ∈ TB := TB_in (List.mem_of_getElem? (i := 421) (by decide +kernel)) rfl
theorem cb_X9_107 : CB RX9 107 yX1_renew m_X1_renew 3 := ⟨cd_X1_renew, ml_X9_107, ini_X1, by decide +kernel⟩
theorem ml_X9_103 : Cond.methodLink RX9 103 yX9_found ∈ TB := TB_in (List.mem_of_getElem? (i := 417) (by decide +kernel)) rfl
theorem cb_X9_103 : CB RX9 103 yX9_found m_X9_found 1 := ⟨cd_X9_found, ml_X9_103, ini_X9, by decide +kernel⟩
theorem ml_X9_110 : Cond.methodLink RX9 110 yX1_isLost ∈ TB := TB_in (List.mem_of_getElem? (i := 429) (by decide +kernel)) rfl
theorem cb_X9_110 : CB RX9 110 yX1_isLost m_X1_isLost 1 := ⟨cd_X1_isLost, ml_X9_110, ini_X1, by decide +kernel⟩
theorem lk_X9_113 : Cond.fieldLink RX9 113 RX1 "sizes" "[I" ∈ TB := TB_in (List.mem_of_getElem? (i := 183) (by decide +kernel)) rfl
theorem fl_X9_113 : FL RX9 113 1 2 := ⟨RX1, TX1, 4, rfl, by decide, tb_X1, lk_X9_113⟩
theorem ml_X9_116 : Cond.methodLink RX9 116 yX1_faultOfItem ∈ TB := TB_in (List.mem_of_getElem? (i := 437) (by decide +kernel)) rfl
theorem cb_X9_116 : CB RX9 116 yX1_faultOfItem m_X1_faultOfItem 3 := ⟨cd_X1_faultOfItem, ml_X9_116, ini_X1, by decide +kernel⟩
theorem lk_X9_120 : Cond.fieldLink RX9 120 RX1 "items" "[[I" ∈ TB := TB_in (List.mem_of_getElem? (i := 185) (by decide +kernel)) rfl
theorem fl_X9_120 : FL RX9 120 1 3 := ⟨RX1, TX1, 4, rfl, by decide, tb_X1, lk_X9_120⟩
theorem ml_X9_124 : Cond.methodLink RX9 124 yX1_narrowed ∈ TB := TB_in (List.mem_of_getElem? (i := 442) (by decide +kernel)) rfl
theorem cb_X9_124 : CB RX9 124 yX1_narrowed m_X1_narrowed 2 := ⟨cd_X1_narrowed, ml_X9_124, ini_X1, by decide +kernel⟩
theorem k_X9_128 : Cond.constant RX9 128 (-2147483648 : Int32) ∈ TB := TB_in (List.mem_of_getElem? (i := 449) (by decide +kernel)) rfl
theorem lk_X9_132 : Cond.fieldLink RX9 132 RX1 "forms" "[I" ∈ TB := TB_in (List.mem_of_getElem? (i := 181) (by decide +kernel)) rfl
theorem fl_X9_132 : FL RX9 132 1 1 := ⟨RX1, TX1, 4, rfl, by decide, tb_X1, lk_X9_132⟩
theorem ml_X9_135 : Cond.methodLink RX9 135 yX1_hasItems ∈ TB := TB_in (List.mem_of_getElem? (i := 454) (by decide +kernel)) rfl
theorem cb_X9_135 : CB RX9 135 yX1_hasItems m_X1_hasItems 3 := ⟨cd_X1_hasItems, ml_X9_135, ini_X1, by decide +kernel⟩
theorem cp1 : Cond.native arraycopyName ∈ TB := TB_in (by decide +kernel) rfl
theorem cp2 : Cond.static arraycopyName ∈ TB := TB_in (by decide +kernel) rfl
theorem cp3 : Cond.initialized "java/lang/System" ∈ TB := TB_in (by decide +kernel) rfl
theorem cpl_X9_139 : Cond.methodLink RX9 139 arraycopyName ∈ TB := TB_in (by decide +kernel) rfl
theorem ml_X9_145 : Cond.methodLink RX9 145 yX9_isSide ∈ TB := TB_in (List.mem_of_getElem? (i := 465) (by decide +kernel)) rfl
theorem cb_X9_145 : CB RX9 145 yX9_isSide m_X9_isSide 1 := ⟨cd_X9_isSide, ml_X9_145, ini_X9, by decide +kernel⟩
theorem ml_X9_148 : Cond.methodLink RX9 148 yX9_isHandKind ∈ TB := TB_in (List.mem_of_getElem? (i := 468) (by decide +kernel)) rfl
theorem cb_X9_148 : CB RX9 148 yX9_isHandKind m_X9_isHandKind 1 := ⟨cd_X9_isHandKind, ml_X9_148, ini_X9, by decide +kernel⟩
theorem lk_X9_7 : Cond.fieldLink RX9 7 RX9 "toldHands" "[I" ∈ TB := TB_in (List.mem_of_getElem? (i := 358) (by decide +kernel)) rfl
theorem fl_X9_7 : FL RX9 7 7 3 := ⟨RX9, TX9, 13, rfl, by decide, tb_X9, lk_X9_7⟩
theorem lk_X9_47 : Cond.fieldLink RX9 47 RX9 "rules" "LDropChase$Rules;" ∈ TB := TB_in (List.mem_of_getElem? (i := 360) (by decide +kernel)) rfl
theorem fl_X9_47 : FL RX9 47 7 5 := ⟨RX9, TX9, 13, rfl, by decide, tb_X9, lk_X9_47⟩
theorem ml_X9_313 : Cond.methodLink RX9 313 yX5_listLawful ∈ TB := TB_in (List.mem_of_getElem? (i := 544) (by decide +kernel)) rfl
theorem cb_X9_313 : CB RX9 313 yX5_listLawful m_X5_listLawful 1 := ⟨cd_X5_listLawful, ml_X9_313, ini_X5, by decide +kernel⟩
theorem lk_X9_200 : Cond.fieldLink RX9 200 RX9 "lawful" "I" ∈ TB := TB_in (List.mem_of_getElem? (i := 366) (by decide +kernel)) rfl
theorem fl_X9_200 : FL RX9 200 7 11 := ⟨RX9, TX9, 13, rfl, by decide, tb_X9, lk_X9_200⟩
theorem fp_X9_200 : FP RX9 200 7 11 .int := ⟨RX9, TX9, 13, tyX9, rfl, by decide, tb_X9, lk_X9_200, tyX9_ok, nmX9, rfl, by decide +kernel⟩
theorem st_0_11 (a : Nat → Nat) (w : Wd) (v : Int32) : (fvs a w 0).set 11 (.int v) = fvs a (wdI w 0 11 v) 0 := rfl
theorem ml_X9_151 : Cond.methodLink RX9 151 yX1_someIsTooShort ∈ TB := TB_in (List.mem_of_getElem? (i := 475) (by decide +kernel)) rfl
theorem cb_X9_151 : CB RX9 151 yX1_someIsTooShort m_X1_someIsTooShort 0 := ⟨cd_X1_someIsTooShort, ml_X9_151, ini_X1, by decide +kernel⟩
theorem lk_X9_38 : Cond.fieldLink RX9 38 RX9 "table" "LDropChase$Table;" ∈ TB := TB_in (List.mem_of_getElem? (i := 359) (by decide +kernel)) rfl
theorem fl_X9_38 : FL RX9 38 7 4 := ⟨RX9, TX9, 13, rfl, by decide, tb_X9, lk_X9_38⟩
theorem ml_X9_155 : Cond.methodLink RX9 155 yX6_load ∈ TB := TB_in (List.mem_of_getElem? (i := 479) (by decide +kernel)) rfl
theorem cb_X9_155 : CB RX9 155 yX6_load m_X6_load 1 := ⟨cd_X6_load, ml_X9_155, ini_X6, by decide +kernel⟩
theorem ml_X9_159 : Cond.methodLink RX9 159 yX6_findKings ∈ TB := TB_in (List.mem_of_getElem? (i := 497) (by decide +kernel)) rfl
theorem cb_X9_159 : CB RX9 159 yX6_findKings m_X6_findKings 0 := ⟨cd_X6_findKings, ml_X9_159, ini_X6, by decide +kernel⟩
theorem lk_X9_162 : Cond.fieldLink RX9 162 RX6 "hands" "[I" ∈ TB := TB_in (List.mem_of_getElem? (i := 210) (by decide +kernel)) rfl
theorem fl_X9_162 : FL RX9 162 4 4 := ⟨RX6, TX6, 8, rfl, by decide, tb_X6, lk_X9_162⟩
theorem lk_X9_165 : Cond.fieldLink RX9 165 RX6 "mover" "I" ∈ TB := TB_in (List.mem_of_getElem? (i := 219) (by decide +kernel)) rfl
theorem fl_X9_165 : FL RX9 165 4 7 := ⟨RX6, TX6, 8, rfl, by decide, tb_X6, lk_X9_165⟩
theorem fp_X9_165 : FP RX9 165 4 7 .int := ⟨RX6, TX6, 8, tyX6, rfl, by decide, tb_X6, lk_X9_165, tyX6_ok, nmX6, rfl, by decide +kernel⟩
theorem ml_X9_168 : Cond.methodLink RX9 168 yX6_inCheck ∈ TB := TB_in (List.mem_of_getElem? (i := 504) (by decide +kernel)) rfl
theorem cb_X9_168 : CB RX9 168 yX6_inCheck m_X6_inCheck 1 := ⟨cd_X6_inCheck, ml_X9_168, ini_X6, by decide +kernel⟩
theorem fp_X9_86 : FP RX9 86 7 10 .boolean := ⟨RX9, TX9, 13, tyX9, rfl, by decide, tb_X9, lk_X9_86, tyX9_ok, nmX9, rfl, by decide +kernel⟩
theorem st_0_10 (a : Nat → Nat) (w : Wd) (v : Int32) : (fvs a w 0).set 10 (.int v) = fvs a (wdI w 0 10 v) 0 := rfl
theorem lk_X9_72 : Cond.fieldLink RX9 72 RX9 "current" "LDropChase$Play;" ∈ TB := TB_in (List.mem_of_getElem? (i := 363) (by decide +kernel)) rfl
theorem fl_X9_72 : FL RX9 72 7 8 := ⟨RX9, TX9, 13, rfl, by decide, tb_X9, lk_X9_72⟩
theorem ml_X9_171 : Cond.methodLink RX9 171 yX4_begin ∈ TB := TB_in (List.mem_of_getElem? (i := 513) (by decide +kernel)) rfl
theorem cb_X9_171 : CB RX9 171 yX4_begin m_X4_begin 0 := ⟨cd_X4_begin, ml_X9_171, ini_X4, by decide +kernel⟩
theorem ml_X9_174 : Cond.methodLink RX9 174 yX9_lookAround ∈ TB := TB_in (List.mem_of_getElem? (i := 540) (by decide +kernel)) rfl
theorem cb_X9_174 : CB RX9 174 yX9_lookAround m_X9_lookAround 0 := ⟨cd_X9_lookAround, ml_X9_174, ini_X9, by decide +kernel⟩
theorem lk_X9_56 : Cond.fieldLink RX9 56 RX9 "chase" "LDropChase$Chase;" ∈ TB := TB_in (List.mem_of_getElem? (i := 361) (by decide +kernel)) rfl
theorem fl_X9_56 : FL RX9 56 7 6 := ⟨RX9, TX9, 13, rfl, by decide, tb_X9, lk_X9_56⟩
theorem lk_X9_177 : Cond.fieldLink RX9 177 RX0 "size" "I" ∈ TB := TB_in (List.mem_of_getElem? (i := 272) (by decide +kernel)) rfl
theorem fl_X9_177 : FL RX9 177 0 5 := ⟨RX0, TX0, 9, rfl, by decide, tb_X0, lk_X9_177⟩
theorem fp_X9_177 : FP RX9 177 0 5 .int := ⟨RX0, TX0, 9, tyX0, rfl, by decide, tb_X0, lk_X9_177, tyX0_ok, nmX0, rfl, by decide +kernel⟩
theorem lk_X9_180 : Cond.fieldLink RX9 180 RX4 "done" "I" ∈ TB := TB_in (List.mem_of_getElem? (i := 330) (by decide +kernel)) rfl
theorem fl_X9_180 : FL RX9 180 2 6 := ⟨RX4, TX4, 9, rfl, by decide, tb_X4, lk_X9_180⟩
theorem lk_X9_13 : Cond.fieldLink RX9 13 RX9 "fields" "I" ∈ TB := TB_in (List.mem_of_getElem? (i := 355) (by decide +kernel)) rfl
theorem fl_X9_13 : FL RX9 13 7 0 := ⟨RX9, TX9, 13, rfl, by decide, tb_X9, lk_X9_13⟩
theorem ml_X9_183 : Cond.methodLink RX9 183 yX9_isField ∈ TB := TB_in (List.mem_of_getElem? (i := 620) (by decide +kernel)) rfl
theorem cb_X9_183 : CB RX9 183 yX9_isField m_X9_isField 1 := ⟨cd_X9_isField, ml_X9_183, ini_X9, by decide +kernel⟩
theorem lk_X9_186 : Cond.fieldLink RX9 186 RX6 "cells" "[I" ∈ TB := TB_in (List.mem_of_getElem? (i := 206) (by decide +kernel)) rfl
theorem fl_X9_186 : FL RX9 186 4 3 := ⟨RX6, TX6, 8, rfl, by decide, tb_X6, lk_X9_186⟩
theorem ml_X9_189 : Cond.methodLink RX9 189 yX9_inHand ∈ TB := TB_in (List.mem_of_getElem? (i := 628) (by decide +kernel)) rfl
theorem cb_X9_189 : CB RX9 189 yX9_inHand m_X9_inHand 2 := ⟨cd_X9_inHand, ml_X9_189, ini_X9, by decide +kernel⟩
theorem ml_X9_192 : Cond.methodLink RX9 192 yX6_attacked ∈ TB := TB_in (List.mem_of_getElem? (i := 636) (by decide +kernel)) rfl
theorem cb_X9_192 : CB RX9 192 yX6_attacked m_X6_attacked 2 := ⟨cd_X6_attacked, ml_X9_192, ini_X6, by decide +kernel⟩
theorem ml_X9_196 : Cond.methodLink RX9 196 yX9_asNumber ∈ TB := TB_in (List.mem_of_getElem? (i := 637) (by decide +kernel)) rfl
theorem cb_X9_196 : CB RX9 196 yX9_asNumber m_X9_asNumber 1 := ⟨cd_X9_asNumber, ml_X9_196, ini_X9, by decide +kernel⟩
theorem ml_X9_203 : Cond.methodLink RX9 203 yX5_listed ∈ TB := TB_in (List.mem_of_getElem? (i := 652) (by decide +kernel)) rfl
theorem cb_X9_203 : CB RX9 203 yX5_listed m_X5_listed 2 := ⟨cd_X5_listed, ml_X9_203, ini_X5, by decide +kernel⟩
theorem ml_X9_206 : Cond.methodLink RX9 206 yX3_fromOf ∈ TB := TB_in (List.mem_of_getElem? (i := 656) (by decide +kernel)) rfl
theorem cb_X9_206 : CB RX9 206 yX3_fromOf m_X3_fromOf 1 := ⟨cd_X3_fromOf, ml_X9_206, ini_X3, by decide +kernel⟩
theorem ml_X9_211 : Cond.methodLink RX9 211 yX3_toOf ∈ TB := TB_in (List.mem_of_getElem? (i := 660) (by decide +kernel)) rfl
theorem cb_X9_211 : CB RX9 211 yX3_toOf m_X3_toOf 1 := ⟨cd_X3_toOf, ml_X9_211, ini_X3, by decide +kernel⟩
theorem ml_X9_214 : Cond.methodLink RX9 214 yX3_raises ∈ TB := TB_in (List.mem_of_getElem? (i := 663) (by decide +kernel)) rfl
theorem cb_X9_214 : CB RX9 214 yX3_raises m_X3_raises 1 := ⟨cd_X3_raises, ml_X9_214, ini_X3, by decide +kernel⟩
theorem ml_X9_217 : Cond.methodLink RX9 217 yX6_moverKind ∈ TB := TB_in (List.mem_of_getElem? (i := 666) (by decide +kernel)) rfl
theorem cb_X9_217 : CB RX9 217 yX6_moverKind m_X6_moverKind 1 := ⟨cd_X6_moverKind, ml_X9_217, ini_X6, by decide +kernel⟩
theorem ml_X9_220 : Cond.methodLink RX9 220 yX3_takenKindOf ∈ TB := TB_in (List.mem_of_getElem? (i := 675) (by decide +kernel)) rfl
theorem cb_X9_220 : CB RX9 220 yX3_takenKindOf m_X3_takenKindOf 1 := ⟨cd_X3_takenKindOf, ml_X9_220, ini_X3, by decide +kernel⟩
theorem ml_X9_223 : Cond.methodLink RX9 223 yX3_going ∈ TB := TB_in (List.mem_of_getElem? (i := 683) (by decide +kernel)) rfl
theorem cb_X9_223 : CB RX9 223 yX3_going m_X3_going 3 := ⟨cd_X3_going, ml_X9_223, ini_X3, by decide +kernel⟩
theorem ml_X9_227 : Cond.methodLink RX9 227 yX5_faultOf ∈ TB := TB_in (List.mem_of_getElem? (i := 686) (by decide +kernel)) rfl
theorem cb_X9_227 : CB RX9 227 yX5_faultOf m_X5_faultOf 1 := ⟨cd_X5_faultOf, ml_X9_227, ini_X5, by decide +kernel⟩
theorem ml_X9_230 : Cond.methodLink RX9 230 yX3_setting ∈ TB := TB_in (List.mem_of_getElem? (i := 712) (by decide +kernel)) rfl
theorem cb_X9_230 : CB RX9 230 yX3_setting m_X3_setting 2 := ⟨cd_X3_setting, ml_X9_230, ini_X3, by decide +kernel⟩
theorem cn_X9_233 (d : Nat) : CN RX9 233 yX5_countRows (m_X5_countRows d) 3 := ⟨cd_X5_countRows, by decide +kernel, ini_X5, by decide +kernel⟩
theorem ml_X9_316 : Cond.methodLink RX9 316 yX4_ending ∈ TB := TB_in (List.mem_of_getElem? (i := 732) (by decide +kernel)) rfl
theorem cb_X9_316 : CB RX9 316 yX4_ending m_X4_ending 0 := ⟨cd_X4_ending, ml_X9_316, ini_X4, by decide +kernel⟩
theorem ml_X9_236 : Cond.methodLink RX9 236 yX9_stateOfPlay ∈ TB := TB_in (List.mem_of_getElem? (i := 728) (by decide +kernel)) rfl
theorem cb_X9_236 : CB RX9 236 yX9_stateOfPlay m_X9_stateOfPlay 0 := ⟨cd_X9_stateOfPlay, ml_X9_236, ini_X9, by decide +kernel⟩
theorem ml_X9_240 : Cond.methodLink RX9 240 yX4_advance ∈ TB := TB_in (List.mem_of_getElem? (i := 740) (by decide +kernel)) rfl
theorem cb_X9_240 : CB RX9 240 yX4_advance m_X4_advance 1 := ⟨cd_X4_advance, ml_X9_240, ini_X4, by decide +kernel⟩
theorem ml_X9_243 : Cond.methodLink RX9 243 yX4_withdraw ∈ TB := TB_in (List.mem_of_getElem? (i := 754) (by decide +kernel)) rfl
theorem cb_X9_243 : CB RX9 243 yX4_withdraw m_X4_withdraw 0 := ⟨cd_X4_withdraw, ml_X9_243, ini_X4, by decide +kernel⟩
theorem lk_X9_246 : Cond.fieldLink RX9 246 RX4 "known" "I" ∈ TB := TB_in (List.mem_of_getElem? (i := 332) (by decide +kernel)) rfl
theorem fl_X9_246 : FL RX9 246 2 7 := ⟨RX4, TX4, 9, rfl, by decide, tb_X4, lk_X9_246⟩
theorem ml_X9_249 : Cond.methodLink RX9 249 yX4_repeat ∈ TB := TB_in (List.mem_of_getElem? (i := 763) (by decide +kernel)) rfl
theorem cb_X9_249 : CB RX9 249 yX4_repeat m_X4_repeat 0 := ⟨cd_X4_repeat, ml_X9_249, ini_X4, by decide +kernel⟩
theorem lk_X9_319 : Cond.fieldLink RX9 319 RX4 "times" "I" ∈ TB := TB_in (List.mem_of_getElem? (i := 334) (by decide +kernel)) rfl
theorem fl_X9_319 : FL RX9 319 2 8 := ⟨RX4, TX4, 9, rfl, by decide, tb_X4, lk_X9_319⟩
theorem ml_X9_322 : Cond.methodLink RX9 322 yX4_latestGaveCheck ∈ TB := TB_in (List.mem_of_getElem? (i := 772) (by decide +kernel)) rfl
theorem cb_X9_322 : CB RX9 322 yX4_latestGaveCheck m_X4_latestGaveCheck 0 := ⟨cd_X4_latestGaveCheck, ml_X9_322, ini_X4, by decide +kernel⟩
theorem ml_X9_252 : Cond.methodLink RX9 252 yX9_ofPlay ∈ TB := TB_in (List.mem_of_getElem? (i := 768) (by decide +kernel)) rfl
theorem cb_X9_252 : CB RX9 252 yX9_ofPlay m_X9_ofPlay 1 := ⟨cd_X9_ofPlay, ml_X9_252, ini_X9, by decide +kernel⟩
theorem lk_X9_255 : Cond.fieldLink RX9 255 RX0 "fuel" "I" ∈ TB := TB_in (List.mem_of_getElem? (i := 274) (by decide +kernel)) rfl
theorem fl_X9_255 : FL RX9 255 0 6 := ⟨RX0, TX0, 9, rfl, by decide, tb_X0, lk_X9_255⟩
theorem fp_X9_255 : FP RX9 255 0 6 .int := ⟨RX0, TX0, 9, tyX0, rfl, by decide, tb_X0, lk_X9_255, tyX0_ok, nmX0, rfl, by decide +kernel⟩
theorem st_29_6 (a : Nat → Nat) (w : Wd) (v : Int32) : (fvs a w 29).set 6 (.int v) = fvs a (wdI w 29 6 v) 29 := rfl
theorem ml_X9_258 : Cond.methodLink RX9 258 yX0_begin ∈ TB := TB_in (List.mem_of_getElem? (i := 784) (by decide +kernel)) rfl
theorem cb_X9_258 : CB RX9 258 yX0_begin m_X0_begin 0 := ⟨cd_X0_begin, ml_X9_258, ini_X0, by decide +kernel⟩
theorem lk_X9_259 : Cond.fieldLink RX9 259 RX0 "dry" "Z" ∈ TB := TB_in (List.mem_of_getElem? (i := 278) (by decide +kernel)) rfl
theorem fl_X9_259 : FL RX9 259 0 8 := ⟨RX0, TX0, 9, rfl, by decide, tb_X0, lk_X9_259⟩
theorem cn_X9_262 (d : Nat) : CN RX9 262 yX0_hunterGoes (m_X0_hunterGoes d) 3 := ⟨cd_X0_hunterGoes, by decide +kernel, ini_X0, by decide +kernel⟩
theorem ml_X9_265 : Cond.methodLink RX9 265 yX0_fits ∈ TB := TB_in (List.mem_of_getElem? (i := 811) (by decide +kernel)) rfl
theorem cb_X9_265 : CB RX9 265 yX0_fits m_X0_fits 0 := ⟨cd_X0_fits, ml_X9_265, ini_X0, by decide +kernel⟩
theorem lk_X9_268 : Cond.fieldLink RX9 268 RX0 "used" "I" ∈ TB := TB_in (List.mem_of_getElem? (i := 276) (by decide +kernel)) rfl
theorem fl_X9_268 : FL RX9 268 0 7 := ⟨RX0, TX0, 9, rfl, by decide, tb_X0, lk_X9_268⟩
theorem lk_X9_271 : Cond.fieldLink RX9 271 RX0 "codes" "[I" ∈ TB := TB_in (List.mem_of_getElem? (i := 266) (by decide +kernel)) rfl
theorem fl_X9_271 : FL RX9 271 0 2 := ⟨RX0, TX0, 9, rfl, by decide, tb_X0, lk_X9_271⟩
theorem lk_X9_274 : Cond.fieldLink RX9 274 RX0 "parents" "[I" ∈ TB := TB_in (List.mem_of_getElem? (i := 268) (by decide +kernel)) rfl
theorem fl_X9_274 : FL RX9 274 0 3 := ⟨RX0, TX0, 9, rfl, by decide, tb_X0, lk_X9_274⟩
theorem ml_X9_277 : Cond.methodLink RX9 277 yX3_setKindOf ∈ TB := TB_in (List.mem_of_getElem? (i := 827) (by decide +kernel)) rfl
theorem cb_X9_277 : CB RX9 277 yX3_setKindOf m_X3_setKindOf 1 := ⟨cd_X3_setKindOf, ml_X9_277, ini_X3, by decide +kernel⟩
theorem ml_X9_280 : Cond.methodLink RX9 280 yX0_depthOf ∈ TB := TB_in (List.mem_of_getElem? (i := 828) (by decide +kernel)) rfl
theorem cb_X9_280 : CB RX9 280 yX0_depthOf m_X0_depthOf 1 := ⟨cd_X0_depthOf, ml_X9_280, ini_X0, by decide +kernel⟩
theorem lk_X9_283 : Cond.fieldLink RX9 283 RX0 "inside" "[I" ∈ TB := TB_in (List.mem_of_getElem? (i := 270) (by decide +kernel)) rfl
theorem fl_X9_283 : FL RX9 283 0 4 := ⟨RX0, TX0, 9, rfl, by decide, tb_X0, lk_X9_283⟩
theorem cn_X9_286 (d : Nat) : CN RX9 286 yX0_firstFault (m_X0_firstFault d) 2 := ⟨cd_X0_firstFault, by decide +kernel, ini_X0, by decide +kernel⟩
theorem lk_X9_63 : Cond.fieldLink RX9 63 RX9 "text" "LDropChase$Text;" ∈ TB := TB_in (List.mem_of_getElem? (i := 362) (by decide +kernel)) rfl
theorem fl_X9_63 : FL RX9 63 7 7 := ⟨RX9, TX9, 13, rfl, by decide, tb_X9, lk_X9_63⟩
theorem ml_X9_289 : Cond.methodLink RX9 289 yX7_setDown ∈ TB := TB_in (List.mem_of_getElem? (i := 861) (by decide +kernel)) rfl
theorem cb_X9_289 : CB RX9 289 yX7_setDown m_X7_setDown 1 := ⟨cd_X7_setDown, ml_X9_289, ini_X7, by decide +kernel⟩
theorem lk_X9_293 : Cond.fieldLink RX9 293 RX7 "size" "I" ∈ TB := TB_in (List.mem_of_getElem? (i := 308) (by decide +kernel)) rfl
theorem fl_X9_293 : FL RX9 293 5 2 := ⟨RX7, TX7, 3, rfl, by decide, tb_X7, lk_X9_293⟩
theorem ml_X9_294 : Cond.methodLink RX9 294 yX7_add ∈ TB := TB_in (List.mem_of_getElem? (i := 890) (by decide +kernel)) rfl
theorem cb_X9_294 : CB RX9 294 yX7_add m_X7_add 1 := ⟨cd_X7_add, ml_X9_294, ini_X7, by decide +kernel⟩
theorem fp_X9_293 : FP RX9 293 5 2 .int := ⟨RX7, TX7, 3, tyX7, rfl, by decide, tb_X7, lk_X9_293, tyX7_ok, nmX7, rfl, by decide +kernel⟩
theorem lk_X9_297 : Cond.fieldLink RX9 297 RX7 "bytes" "[I" ∈ TB := TB_in (List.mem_of_getElem? (i := 306) (by decide +kernel)) rfl
theorem fl_X9_297 : FL RX9 297 5 1 := ⟨RX7, TX7, 3, rfl, by decide, tb_X7, lk_X9_297⟩
theorem ml_X9_325 : Cond.methodLink RX9 325 yX7_moveBetween ∈ TB := TB_in (List.mem_of_getElem? (i := 911) (by decide +kernel)) rfl
theorem cb_X9_325 : CB RX9 325 yX7_moveBetween m_X7_moveBetween 2 := ⟨cd_X7_moveBetween, ml_X9_325, ini_X7, by decide +kernel⟩
theorem lk_X9_76 : Cond.fieldLink RX9 76 RX9 "spare" "LDropChase$Play;" ∈ TB := TB_in (List.mem_of_getElem? (i := 364) (by decide +kernel)) rfl
theorem fl_X9_76 : FL RX9 76 7 9 := ⟨RX9, TX9, 13, rfl, by decide, tb_X9, lk_X9_76⟩
theorem ml_X9_328 : Cond.methodLink RX9 328 yX4_isOpen ∈ TB := TB_in (List.mem_of_getElem? (i := 922) (by decide +kernel)) rfl
theorem cb_X9_328 : CB RX9 328 yX4_isOpen m_X4_isOpen 0 := ⟨cd_X4_isOpen, ml_X9_328, ini_X4, by decide +kernel⟩
theorem ml_X9_331 : Cond.methodLink RX9 331 yX6_withTaken ∈ TB := TB_in (List.mem_of_getElem? (i := 927) (by decide +kernel)) rfl
theorem cb_X9_331 : CB RX9 331 yX6_withTaken m_X6_withTaken 1 := ⟨cd_X6_withTaken, ml_X9_331, ini_X6, by decide +kernel⟩
theorem ml_X9_300 : Cond.methodLink RX9 300 yX4_leave ∈ TB := TB_in (List.mem_of_getElem? (i := 903) (by decide +kernel)) rfl
theorem cb_X9_300 : CB RX9 300 yX4_leave m_X4_leave 0 := ⟨cd_X4_leave, ml_X9_300, ini_X4, by decide +kernel⟩
theorem ml_X9_303 : Cond.methodLink RX9 303 yX9_doText ∈ TB := TB_in (List.mem_of_getElem? (i := 907) (by decide +kernel)) rfl
theorem cb_X9_303 : CB RX9 303 yX9_doText m_X9_doText 0 := ⟨cd_X9_doText, ml_X9_303, ini_X9, by decide +kernel⟩
theorem fp_X9_72 : FP RX9 72 7 8 (.object "DropChase$Play") := ⟨RX9, TX9, 13, tyX9, rfl, by decide, tb_X9, lk_X9_72, tyX9_ok, nmX9, rfl, by decide +kernel⟩
theorem fp_X9_76 : FP RX9 76 7 9 (.object "DropChase$Play") := ⟨RX9, TX9, 13, tyX9, rfl, by decide, tb_X9, lk_X9_76, tyX9_ok, nmX9, rfl, by decide +kernel⟩
theorem ml_X9_306 : Cond.methodLink RX9 306 yX4_resume ∈ TB := TB_in (List.mem_of_getElem? (i := 928) (by decide +kernel)) rfl
theorem cb_X9_306 : CB RX9 306 yX4_resume m_X4_resume 0 := ⟨cd_X4_resume, ml_X9_306, ini_X4, by decide +kernel⟩
theorem k_X9_309 : Cond.constantLong RX9 309 (17 : Int64) ∈ TB := TB_in (List.mem_of_getElem? (i := 940) (by decide +kernel)) rfl
theorem k_X9_311 : Cond.constantLong RX9 311 (31 : Int64) ∈ TB := TB_in (List.mem_of_getElem? (i := 941) (by decide +kernel)) rfl
