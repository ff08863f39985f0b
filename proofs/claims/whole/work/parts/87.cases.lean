/-! ===== the cases of the law's switch (made by gen/mklaw.py) ===== -/
theorem ml_L_21 : Cond.methodLink R_law 21 yX9_kind ∈ TB := TB_in (List.mem_of_getElem? (i := 395) (by decide +kernel)) rfl
theorem cb_L_21 : CB R_law 21 yX9_kind m_X9_kind 6 := ⟨cd_X9_kind, ml_L_21, ini_X9, by decide +kernel⟩
theorem ml_L_25 : Cond.methodLink R_law 25 yX10_kind ∈ TB := TB_in (List.mem_of_getElem? (i := 1121) (by decide +kernel)) rfl
theorem cb_L_25 : CB R_law 25 yX10_kind m_X10_kind 6 := ⟨cd_X10_kind, ml_L_25, ini_X10, by decide +kernel⟩
theorem ml_L_26 : Cond.methodLink R_law 26 yX9_line ∈ TB := TB_in (List.mem_of_getElem? (i := 406) (by decide +kernel)) rfl
theorem cb_L_26 : CB R_law 26 yX9_line m_X9_line 3 := ⟨cd_X9_line, ml_L_26, ini_X9, by decide +kernel⟩
theorem ml_L_30 : Cond.methodLink R_law 30 yX10_line ∈ TB := TB_in (List.mem_of_getElem? (i := 1128) (by decide +kernel)) rfl
theorem cb_L_30 : CB R_law 30 yX10_line m_X10_line 3 := ⟨cd_X10_line, ml_L_30, ini_X10, by decide +kernel⟩
theorem ml_L_31 : Cond.methodLink R_law 31 yX9_lose ∈ TB := TB_in (List.mem_of_getElem? (i := 425) (by decide +kernel)) rfl
theorem cb_L_31 : CB R_law 31 yX9_lose m_X9_lose 1 := ⟨cd_X9_lose, ml_L_31, ini_X9, by decide +kernel⟩
theorem ml_L_35 : Cond.methodLink R_law 35 yX10_lose ∈ TB := TB_in (List.mem_of_getElem? (i := 1141) (by decide +kernel)) rfl
theorem cb_L_35 : CB R_law 35 yX10_lose m_X10_lose 1 := ⟨cd_X10_lose, ml_L_35, ini_X10, by decide +kernel⟩
theorem ml_L_36 : Cond.methodLink R_law 36 yX9_put ∈ TB := TB_in (List.mem_of_getElem? (i := 433) (by decide +kernel)) rfl
theorem cb_L_36 : CB R_law 36 yX9_put m_X9_put 4 := ⟨cd_X9_put, ml_L_36, ini_X9, by decide +kernel⟩
theorem ml_L_40 : Cond.methodLink R_law 40 yX10_put ∈ TB := TB_in (List.mem_of_getElem? (i := 1145) (by decide +kernel)) rfl
theorem cb_L_40 : CB R_law 40 yX10_put m_X10_put 4 := ⟨cd_X10_put, ml_L_40, ini_X10, by decide +kernel⟩
theorem ml_L_41 : Cond.methodLink R_law 41 yX9_get ∈ TB := TB_in (List.mem_of_getElem? (i := 445) (by decide +kernel)) rfl
theorem cb_L_41 : CB R_law 41 yX9_get m_X9_get 3 := ⟨cd_X9_get, ml_L_41, ini_X9, by decide +kernel⟩
theorem ml_L_44 : Cond.methodLink R_law 44 yX10_get ∈ TB := TB_in (List.mem_of_getElem? (i := 1153) (by decide +kernel)) rfl
theorem cb_L_44 : CB R_law 44 yX10_get m_X10_get 3 := ⟨cd_X10_get, ml_L_44, ini_X10, by decide +kernel⟩
theorem ml_L_45 : Cond.methodLink R_law 45 yX9_copy ∈ TB := TB_in (List.mem_of_getElem? (i := 450) (by decide +kernel)) rfl
theorem cb_L_45 : CB R_law 45 yX9_copy m_X9_copy 5 := ⟨cd_X9_copy, ml_L_45, ini_X9, by decide +kernel⟩
theorem ml_L_49 : Cond.methodLink R_law 49 yX10_copy ∈ TB := TB_in (List.mem_of_getElem? (i := 1158) (by decide +kernel)) rfl
theorem cb_L_49 : CB R_law 49 yX10_copy m_X10_copy 5 := ⟨cd_X10_copy, ml_L_49, ini_X10, by decide +kernel⟩
theorem ml_L_50 : Cond.methodLink R_law 50 yX9_hand ∈ TB := TB_in (List.mem_of_getElem? (i := 461) (by decide +kernel)) rfl
theorem cb_L_50 : CB R_law 50 yX9_hand m_X9_hand 3 := ⟨cd_X9_hand, ml_L_50, ini_X9, by decide +kernel⟩
theorem ml_L_53 : Cond.methodLink R_law 53 yX10_hand ∈ TB := TB_in (List.mem_of_getElem? (i := 1162) (by decide +kernel)) rfl
theorem cb_L_53 : CB R_law 53 yX10_hand m_X10_hand 3 := ⟨cd_X10_hand, ml_L_53, ini_X10, by decide +kernel⟩
theorem ml_L_54 : Cond.methodLink R_law 54 yX9_stand ∈ TB := TB_in (List.mem_of_getElem? (i := 471) (by decide +kernel)) rfl
theorem cb_L_54 : CB R_law 54 yX9_stand m_X9_stand 1 := ⟨cd_X9_stand, ml_L_54, ini_X9, by decide +kernel⟩
theorem ml_L_57 : Cond.methodLink R_law 57 yX10_stand ∈ TB := TB_in (List.mem_of_getElem? (i := 1167) (by decide +kernel)) rfl
theorem cb_L_57 : CB R_law 57 yX10_stand m_X10_stand 1 := ⟨cd_X10_stand, ml_L_57, ini_X10, by decide +kernel⟩
theorem ml_L_58 : Cond.methodLink R_law 58 yX9_clear ∈ TB := TB_in (List.mem_of_getElem? (i := 612) (by decide +kernel)) rfl
theorem cb_L_58 : CB R_law 58 yX9_clear m_X9_clear 0 := ⟨cd_X9_clear, ml_L_58, ini_X9, by decide +kernel⟩
theorem ml_L_62 : Cond.methodLink R_law 62 yX10_clear ∈ TB := TB_in (List.mem_of_getElem? (i := 1279) (by decide +kernel)) rfl
theorem cb_L_62 : CB R_law 62 yX10_clear m_X10_clear 0 := ⟨cd_X10_clear, ml_L_62, ini_X10, by decide +kernel⟩
theorem ml_L_63 : Cond.methodLink R_law 63 yX9_field ∈ TB := TB_in (List.mem_of_getElem? (i := 616) (by decide +kernel)) rfl
theorem cb_L_63 : CB R_law 63 yX9_field m_X9_field 1 := ⟨cd_X9_field, ml_L_63, ini_X9, by decide +kernel⟩
theorem ml_L_66 : Cond.methodLink R_law 66 yX10_field ∈ TB := TB_in (List.mem_of_getElem? (i := 1283) (by decide +kernel)) rfl
theorem cb_L_66 : CB R_law 66 yX10_field m_X10_field 1 := ⟨cd_X10_field, ml_L_66, ini_X10, by decide +kernel⟩
theorem ml_L_67 : Cond.methodLink R_law 67 yX9_has ∈ TB := TB_in (List.mem_of_getElem? (i := 624) (by decide +kernel)) rfl
theorem cb_L_67 : CB R_law 67 yX9_has m_X9_has 2 := ⟨cd_X9_has, ml_L_67, ini_X9, by decide +kernel⟩
theorem ml_L_71 : Cond.methodLink R_law 71 yX10_has ∈ TB := TB_in (List.mem_of_getElem? (i := 1291) (by decide +kernel)) rfl
theorem cb_L_71 : CB R_law 71 yX10_has m_X10_has 2 := ⟨cd_X10_has, ml_L_71, ini_X10, by decide +kernel⟩
theorem ml_L_72 : Cond.methodLink R_law 72 yX9_attacks ∈ TB := TB_in (List.mem_of_getElem? (i := 632) (by decide +kernel)) rfl
theorem cb_L_72 : CB R_law 72 yX9_attacks m_X9_attacks 2 := ⟨cd_X9_attacks, ml_L_72, ini_X9, by decide +kernel⟩
theorem ml_L_75 : Cond.methodLink R_law 75 yX10_attacks ∈ TB := TB_in (List.mem_of_getElem? (i := 1295) (by decide +kernel)) rfl
theorem cb_L_75 : CB R_law 75 yX10_attacks m_X10_attacks 2 := ⟨cd_X10_attacks, ml_L_75, ini_X10, by decide +kernel⟩
theorem ml_L_76 : Cond.methodLink R_law 76 yX9_check ∈ TB := TB_in (List.mem_of_getElem? (i := 640) (by decide +kernel)) rfl
theorem cb_L_76 : CB R_law 76 yX9_check m_X9_check 1 := ⟨cd_X9_check, ml_L_76, ini_X9, by decide +kernel⟩
theorem ml_L_79 : Cond.methodLink R_law 79 yX10_check ∈ TB := TB_in (List.mem_of_getElem? (i := 1299) (by decide +kernel)) rfl
theorem cb_L_79 : CB R_law 79 yX10_check m_X10_check 1 := ⟨cd_X10_check, ml_L_79, ini_X10, by decide +kernel⟩
theorem ml_L_80 : Cond.methodLink R_law 80 yX9_moves ∈ TB := TB_in (List.mem_of_getElem? (i := 644) (by decide +kernel)) rfl
theorem cb_L_80 : CB R_law 80 yX9_moves m_X9_moves 0 := ⟨cd_X9_moves, ml_L_80, ini_X9, by decide +kernel⟩
theorem ml_L_83 : Cond.methodLink R_law 83 yX10_moves ∈ TB := TB_in (List.mem_of_getElem? (i := 1303) (by decide +kernel)) rfl
theorem cb_L_83 : CB R_law 83 yX10_moves m_X10_moves 0 := ⟨cd_X10_moves, ml_L_83, ini_X10, by decide +kernel⟩
theorem ml_L_84 : Cond.methodLink R_law 84 yX9_move ∈ TB := TB_in (List.mem_of_getElem? (i := 648) (by decide +kernel)) rfl
theorem cb_L_84 : CB R_law 84 yX9_move m_X9_move 2 := ⟨cd_X9_move, ml_L_84, ini_X9, by decide +kernel⟩
theorem ml_L_87 : Cond.methodLink R_law 87 yX10_move ∈ TB := TB_in (List.mem_of_getElem? (i := 1307) (by decide +kernel)) rfl
theorem cb_L_87 : CB R_law 87 yX10_move m_X10_move 2 := ⟨cd_X10_move, ml_L_87, ini_X10, by decide +kernel⟩
theorem ml_L_88 : Cond.methodLink R_law 88 yX9_why ∈ TB := TB_in (List.mem_of_getElem? (i := 679) (by decide +kernel)) rfl
theorem cb_L_88 : CB R_law 88 yX9_why m_X9_why 3 := ⟨cd_X9_why, ml_L_88, ini_X9, by decide +kernel⟩
theorem ml_L_92 : Cond.methodLink R_law 92 yX10_why ∈ TB := TB_in (List.mem_of_getElem? (i := 1312) (by decide +kernel)) rfl
theorem cb_L_92 : CB R_law 92 yX10_why m_X10_why 3 := ⟨cd_X10_why, ml_L_92, ini_X10, by decide +kernel⟩
theorem ml_L_93 : Cond.methodLink R_law 93 yX9_whySet ∈ TB := TB_in (List.mem_of_getElem? (i := 708) (by decide +kernel)) rfl
theorem cb_L_93 : CB R_law 93 yX9_whySet m_X9_whySet 2 := ⟨cd_X9_whySet, ml_L_93, ini_X9, by decide +kernel⟩
theorem ml_L_96 : Cond.methodLink R_law 96 yX10_whySet ∈ TB := TB_in (List.mem_of_getElem? (i := 1316) (by decide +kernel)) rfl
theorem cb_L_96 : CB R_law 96 yX10_whySet m_X10_whySet 2 := ⟨cd_X10_whySet, ml_L_96, ini_X10, by decide +kernel⟩
theorem ml_L_97 : Cond.methodLink R_law 97 yX9_rows ∈ TB := TB_in (List.mem_of_getElem? (i := 713) (by decide +kernel)) rfl
theorem cb_L_97 : CB R_law 97 yX9_rows m_X9_rows 1 := ⟨cd_X9_rows, ml_L_97, ini_X9, by decide +kernel⟩
theorem ml_L_100 : Cond.methodLink R_law 100 yX10_rows ∈ TB := TB_in (List.mem_of_getElem? (i := 1320) (by decide +kernel)) rfl
theorem cb_L_100 : CB R_law 100 yX10_rows m_X10_rows 1 := ⟨cd_X10_rows, ml_L_100, ini_X10, by decide +kernel⟩
theorem ml_L_101 : Cond.methodLink R_law 101 yX9_go ∈ TB := TB_in (List.mem_of_getElem? (i := 724) (by decide +kernel)) rfl
theorem cb_L_101 : CB R_law 101 yX9_go m_X9_go 1 := ⟨cd_X9_go, ml_L_101, ini_X9, by decide +kernel⟩
theorem ml_L_104 : Cond.methodLink R_law 104 yX10_go ∈ TB := TB_in (List.mem_of_getElem? (i := 1328) (by decide +kernel)) rfl
theorem cb_L_104 : CB R_law 104 yX10_go m_X10_go 1 := ⟨cd_X10_go, ml_L_104, ini_X10, by decide +kernel⟩
theorem ml_L_105 : Cond.methodLink R_law 105 yX9_back ∈ TB := TB_in (List.mem_of_getElem? (i := 750) (by decide +kernel)) rfl
theorem cb_L_105 : CB R_law 105 yX9_back m_X9_back 0 := ⟨cd_X9_back, ml_L_105, ini_X9, by decide +kernel⟩
theorem ml_L_108 : Cond.methodLink R_law 108 yX10_back ∈ TB := TB_in (List.mem_of_getElem? (i := 1336) (by decide +kernel)) rfl
theorem cb_L_108 : CB R_law 108 yX10_back m_X10_back 0 := ⟨cd_X10_back, ml_L_108, ini_X10, by decide +kernel⟩
theorem ml_L_109 : Cond.methodLink R_law 109 yX9_forth ∈ TB := TB_in (List.mem_of_getElem? (i := 759) (by decide +kernel)) rfl
theorem cb_L_109 : CB R_law 109 yX9_forth m_X9_forth 0 := ⟨cd_X9_forth, ml_L_109, ini_X9, by decide +kernel⟩
theorem ml_L_112 : Cond.methodLink R_law 112 yX10_forth ∈ TB := TB_in (List.mem_of_getElem? (i := 1344) (by decide +kernel)) rfl
theorem cb_L_112 : CB R_law 112 yX10_forth m_X10_forth 0 := ⟨cd_X10_forth, ml_L_112, ini_X10, by decide +kernel⟩
theorem ml_L_113 : Cond.methodLink R_law 113 yX9_play ∈ TB := TB_in (List.mem_of_getElem? (i := 764) (by decide +kernel)) rfl
theorem cb_L_113 : CB R_law 113 yX9_play m_X9_play 1 := ⟨cd_X9_play, ml_L_113, ini_X9, by decide +kernel⟩
theorem ml_L_116 : Cond.methodLink R_law 116 yX10_play ∈ TB := TB_in (List.mem_of_getElem? (i := 1348) (by decide +kernel)) rfl
theorem cb_L_116 : CB R_law 116 yX10_play m_X10_play 1 := ⟨cd_X10_play, ml_L_116, ini_X10, by decide +kernel⟩
theorem ml_L_117 : Cond.methodLink R_law 117 yX9_fuel ∈ TB := TB_in (List.mem_of_getElem? (i := 776) (by decide +kernel)) rfl
theorem cb_L_117 : CB R_law 117 yX9_fuel m_X9_fuel 1 := ⟨cd_X9_fuel, ml_L_117, ini_X9, by decide +kernel⟩
theorem ml_L_120 : Cond.methodLink R_law 120 yX10_fuel ∈ TB := TB_in (List.mem_of_getElem? (i := 1352) (by decide +kernel)) rfl
theorem cb_L_120 : CB R_law 120 yX10_fuel m_X10_fuel 1 := ⟨cd_X10_fuel, ml_L_120, ini_X10, by decide +kernel⟩
theorem ml_L_121 : Cond.methodLink R_law 121 yX9_hunt ∈ TB := TB_in (List.mem_of_getElem? (i := 780) (by decide +kernel)) rfl
theorem cb_L_121 : CB R_law 121 yX9_hunt m_X9_hunt 1 := ⟨cd_X9_hunt, ml_L_121, ini_X9, by decide +kernel⟩
theorem ml_L_124 : Cond.methodLink R_law 124 yX10_hunt ∈ TB := TB_in (List.mem_of_getElem? (i := 1357) (by decide +kernel)) rfl
theorem cb_L_124 : CB R_law 124 yX10_hunt m_X10_hunt 1 := ⟨cd_X10_hunt, ml_L_124, ini_X10, by decide +kernel⟩
theorem ml_L_125 : Cond.methodLink R_law 125 yX9_spent ∈ TB := TB_in (List.mem_of_getElem? (i := 815) (by decide +kernel)) rfl
theorem cb_L_125 : CB R_law 125 yX9_spent m_X9_spent 0 := ⟨cd_X9_spent, ml_L_125, ini_X9, by decide +kernel⟩
theorem ml_L_128 : Cond.methodLink R_law 128 yX10_spent ∈ TB := TB_in (List.mem_of_getElem? (i := 1373) (by decide +kernel)) rfl
theorem cb_L_128 : CB R_law 128 yX10_spent m_X10_spent 0 := ⟨cd_X10_spent, ml_L_128, ini_X10, by decide +kernel⟩
theorem ml_L_129 : Cond.methodLink R_law 129 yX9_tree ∈ TB := TB_in (List.mem_of_getElem? (i := 819) (by decide +kernel)) rfl
theorem cb_L_129 : CB R_law 129 yX9_tree m_X9_tree 0 := ⟨cd_X9_tree, ml_L_129, ini_X9, by decide +kernel⟩
theorem ml_L_132 : Cond.methodLink R_law 132 yX10_tree ∈ TB := TB_in (List.mem_of_getElem? (i := 1377) (by decide +kernel)) rfl
theorem cb_L_132 : CB R_law 132 yX10_tree m_X10_tree 0 := ⟨cd_X10_tree, ml_L_132, ini_X10, by decide +kernel⟩
theorem ml_L_133 : Cond.methodLink R_law 133 yX9_node ∈ TB := TB_in (List.mem_of_getElem? (i := 823) (by decide +kernel)) rfl
theorem cb_L_133 : CB R_law 133 yX9_node m_X9_node 2 := ⟨cd_X9_node, ml_L_133, ini_X9, by decide +kernel⟩
theorem ml_L_136 : Cond.methodLink R_law 136 yX10_node ∈ TB := TB_in (List.mem_of_getElem? (i := 1381) (by decide +kernel)) rfl
theorem cb_L_136 : CB R_law 136 yX10_node m_X10_node 2 := ⟨cd_X10_node, ml_L_136, ini_X10, by decide +kernel⟩
theorem ml_L_137 : Cond.methodLink R_law 137 yX9_forge ∈ TB := TB_in (List.mem_of_getElem? (i := 832) (by decide +kernel)) rfl
theorem cb_L_137 : CB R_law 137 yX9_forge m_X9_forge 5 := ⟨cd_X9_forge, ml_L_137, ini_X9, by decide +kernel⟩
theorem ml_L_141 : Cond.methodLink R_law 141 yX10_forge ∈ TB := TB_in (List.mem_of_getElem? (i := 1389) (by decide +kernel)) rfl
theorem cb_L_141 : CB R_law 141 yX10_forge m_X10_forge 5 := ⟨cd_X10_forge, ml_L_141, ini_X10, by decide +kernel⟩
theorem ml_L_142 : Cond.methodLink R_law 142 yX9_verify ∈ TB := TB_in (List.mem_of_getElem? (i := 836) (by decide +kernel)) rfl
theorem cb_L_142 : CB R_law 142 yX9_verify m_X9_verify 0 := ⟨cd_X9_verify, ml_L_142, ini_X9, by decide +kernel⟩
theorem ml_L_145 : Cond.methodLink R_law 145 yX10_verify ∈ TB := TB_in (List.mem_of_getElem? (i := 1393) (by decide +kernel)) rfl
theorem cb_L_145 : CB R_law 145 yX10_verify m_X10_verify 0 := ⟨cd_X10_verify, ml_L_145, ini_X10, by decide +kernel⟩
theorem ml_L_146 : Cond.methodLink R_law 146 yX9_write ∈ TB := TB_in (List.mem_of_getElem? (i := 857) (by decide +kernel)) rfl
theorem cb_L_146 : CB R_law 146 yX9_write m_X9_write 0 := ⟨cd_X9_write, ml_L_146, ini_X9, by decide +kernel⟩
theorem ml_L_149 : Cond.methodLink R_law 149 yX10_write ∈ TB := TB_in (List.mem_of_getElem? (i := 1405) (by decide +kernel)) rfl
theorem cb_L_149 : CB R_law 149 yX10_write m_X10_write 0 := ⟨cd_X10_write, ml_L_149, ini_X10, by decide +kernel⟩
theorem ml_L_150 : Cond.methodLink R_law 150 yX9_type ∈ TB := TB_in (List.mem_of_getElem? (i := 886) (by decide +kernel)) rfl
theorem cb_L_150 : CB R_law 150 yX9_type m_X9_type 1 := ⟨cd_X9_type, ml_L_150, ini_X9, by decide +kernel⟩
theorem ml_L_153 : Cond.methodLink R_law 153 yX10_type ∈ TB := TB_in (List.mem_of_getElem? (i := 1417) (by decide +kernel)) rfl
theorem cb_L_153 : CB R_law 153 yX10_type m_X10_type 1 := ⟨cd_X10_type, ml_L_153, ini_X10, by decide +kernel⟩
theorem ml_L_154 : Cond.methodLink R_law 154 yX9_wipe ∈ TB := TB_in (List.mem_of_getElem? (i := 891) (by decide +kernel)) rfl
theorem cb_L_154 : CB R_law 154 yX9_wipe m_X9_wipe 0 := ⟨cd_X9_wipe, ml_L_154, ini_X9, by decide +kernel⟩
theorem ml_L_157 : Cond.methodLink R_law 157 yX10_wipe ∈ TB := TB_in (List.mem_of_getElem? (i := 1421) (by decide +kernel)) rfl
theorem cb_L_157 : CB R_law 157 yX10_wipe m_X10_wipe 0 := ⟨cd_X10_wipe, ml_L_157, ini_X10, by decide +kernel⟩
theorem ml_L_158 : Cond.methodLink R_law 158 yX9_letter ∈ TB := TB_in (List.mem_of_getElem? (i := 895) (by decide +kernel)) rfl
theorem cb_L_158 : CB R_law 158 yX9_letter m_X9_letter 1 := ⟨cd_X9_letter, ml_L_158, ini_X9, by decide +kernel⟩
theorem ml_L_161 : Cond.methodLink R_law 161 yX10_letter ∈ TB := TB_in (List.mem_of_getElem? (i := 1425) (by decide +kernel)) rfl
theorem cb_L_161 : CB R_law 161 yX10_letter m_X10_letter 1 := ⟨cd_X10_letter, ml_L_161, ini_X10, by decide +kernel⟩
theorem ml_L_162 : Cond.methodLink R_law 162 yX9_read ∈ TB := TB_in (List.mem_of_getElem? (i := 899) (by decide +kernel)) rfl
theorem cb_L_162 : CB R_law 162 yX9_read m_X9_read 0 := ⟨cd_X9_read, ml_L_162, ini_X9, by decide +kernel⟩
theorem ml_L_165 : Cond.methodLink R_law 165 yX10_read ∈ TB := TB_in (List.mem_of_getElem? (i := 1429) (by decide +kernel)) rfl
theorem cb_L_165 : CB R_law 165 yX10_read m_X10_read 0 := ⟨cd_X10_read, ml_L_165, ini_X10, by decide +kernel⟩
theorem ml_L_166 : Cond.methodLink R_law 166 yX9_finding ∈ TB := TB_in (List.mem_of_getElem? (i := 932) (by decide +kernel)) rfl
theorem cb_L_166 : CB R_law 166 yX9_finding m_X9_finding 0 := ⟨cd_X9_finding, ml_L_166, ini_X9, by decide +kernel⟩
theorem ml_L_169 : Cond.methodLink R_law 169 yX10_finding ∈ TB := TB_in (List.mem_of_getElem? (i := 1117) (by decide +kernel)) rfl
theorem cb_L_169 : CB R_law 169 yX10_finding m_X10_finding 0 := ⟨cd_X10_finding, ml_L_169, ini_X10, by decide +kernel⟩
theorem ml_L_170 : Cond.methodLink R_law 170 yX9_digest ∈ TB := TB_in (List.mem_of_getElem? (i := 936) (by decide +kernel)) rfl
theorem cb_L_170 : CB R_law 170 yX9_digest m_X9_digest 0 := ⟨cd_X9_digest, ml_L_170, ini_X9, by decide +kernel⟩
theorem ml_L_174 : Cond.methodLink R_law 174 yX10_digest ∈ TB := TB_in (List.mem_of_getElem? (i := 1443) (by decide +kernel)) rfl
theorem cb_L_174 : CB R_law 174 yX10_digest m_X10_digest 0 := ⟨cd_X10_digest, ml_L_174, ini_X10, by decide +kernel⟩
section CASES
variable {p : Program} {e : Env} {s : State} {m : MethodId} {below : List Frame} {meth : Method} {c : Code} {b L : Nat} {xs : Nat → Int32} {Ex Em : Ev} {kc ks : Nat} {wx wm : Wd}
theorem lc_0 (C : LCx p s m meth c b L xs Ex Em kc ks) {i : Nat} (hi : i + 7 ≤ L) (h : Rl (En Ex) wx wm) (kk : ∀ wx2 wm2, Rl (En Ex) wx2 wm2 → LJ p e s m below meth c b Ex Em kc ks 1233 (lvL b Ex Em i) [] wx2 wm2) : LJ p e s m below meth c b Ex Em kc ks 200 (lvL b Ex Em i) [] wx wm := by
  obtain ⟨v, wx2, wm2, e1, e2, e3⟩ := k_kind (v1 := (xs (i + 1))) (v2 := (xs (i + 2))) (v3 := (xs (i + 3))) (v4 := (xs (i + 4))) (v5 := (xs (i + 5))) (v6 := (xs (i + 6))) h
  refine lj_aload C 2 dL_law_200 rfl rfl ?_
  refine lj_arg C (k := 1) (by omega) dL_law_201 dL_law_202 dL_law_203 rfl dL_law_204 dL_law_205 ?_
  refine lj_arg C (k := 2) (by omega) dL_law_206 dL_law_207 dL_law_208 rfl dL_law_209 dL_law_210 ?_
  refine lj_arg C (k := 3) (by omega) dL_law_211 dL_law_212 dL_law_213 rfl dL_law_214 dL_law_215 ?_
  refine lj_arg C (k := 4) (by omega) dL_law_216 dL_law_217 dL_law_218 rfl dL_law_219 dL_law_220 ?_
  refine lj_arg C (k := 5) (by omega) dL_law_221 dL_law_222 dL_law_223 rfl dL_law_224 dL_law_225 ?_
  refine lj_arg6 C (k := 6) (by omega) dL_law_226 dL_law_227 dL_law_228 rfl dL_law_230 dL_law_231 ?_
  refine lj_callX C [.int (xs (i + 1)), .int (xs (i + 2)), .int (xs (i + 3)), .int (xs (i + 4)), .int (xs (i + 5)), .int (xs (i + 6))] [] (c_X9_kind C.2.2.2.2.2.1 (xs (i + 1)) (xs (i + 2)) (xs (i + 3)) (xs (i + 4)) (xs (i + 5)) (xs (i + 6)) _) e1 rfl cb_L_21 im_X9_kind se_X9_kind rfl (by decide) (by decide) rfl (Nat.le_of_ble_eq_true rfl) dL_law_232 rfl ?_
  refine lj_aload C 1 dL_law_235 rfl rfl ?_
  refine lj_arg C (k := 1) (by omega) dL_law_236 dL_law_237 dL_law_238 rfl dL_law_239 dL_law_240 ?_
  refine lj_arg C (k := 2) (by omega) dL_law_241 dL_law_242 dL_law_243 rfl dL_law_244 dL_law_245 ?_
  refine lj_arg C (k := 3) (by omega) dL_law_246 dL_law_247 dL_law_248 rfl dL_law_249 dL_law_250 ?_
  refine lj_arg C (k := 4) (by omega) dL_law_251 dL_law_252 dL_law_253 rfl dL_law_254 dL_law_255 ?_
  refine lj_arg C (k := 5) (by omega) dL_law_256 dL_law_257 dL_law_258 rfl dL_law_259 dL_law_260 ?_
  refine lj_arg6 C (k := 6) (by omega) dL_law_261 dL_law_262 dL_law_263 rfl dL_law_265 dL_law_266 ?_
  refine lj_callM C [.int (xs (i + 1)), .int (xs (i + 2)), .int (xs (i + 3)), .int (xs (i + 4)), .int (xs (i + 5)), .int (xs (i + 6))] [.int v] (c_X10_kind C.2.2.2.2.2.2.1 (xs (i + 1)) (xs (i + 2)) (xs (i + 3)) (xs (i + 4)) (xs (i + 5)) (xs (i + 6)) _) e2 rfl cb_L_25 im_X10_kind se_X10_kind rfl (by decide) (by decide) rfl (Nat.le_of_ble_eq_true rfl) dL_law_267 rfl ?_
  exact lj_ieq C dL_law_270 rfl (kk _ _ e3)
theorem lc_1 (C : LCx p s m meth c b L xs Ex Em kc ks) {i : Nat} (hi : i + 7 ≤ L) (h : Rl (En Ex) wx wm) (kk : ∀ wx2 wm2, Rl (En Ex) wx2 wm2 → LJ p e s m below meth c b Ex Em kc ks 1233 (lvL b Ex Em i) [] wx2 wm2) : LJ p e s m below meth c b Ex Em kc ks 275 (lvL b Ex Em i) [] wx wm := by
  obtain ⟨v, wx2, wm2, e1, e2, e3⟩ := k_line (v1 := (xs (i + 1))) (v2 := (xs (i + 2))) (v3 := (xs (i + 3))) h
  refine lj_aload C 2 dL_law_275 rfl rfl ?_
  refine lj_arg C (k := 1) (by omega) dL_law_276 dL_law_277 dL_law_278 rfl dL_law_279 dL_law_280 ?_
  refine lj_arg C (k := 2) (by omega) dL_law_281 dL_law_282 dL_law_283 rfl dL_law_284 dL_law_285 ?_
  refine lj_arg C (k := 3) (by omega) dL_law_286 dL_law_287 dL_law_288 rfl dL_law_289 dL_law_290 ?_
  refine lj_callX C [.int (xs (i + 1)), .int (xs (i + 2)), .int (xs (i + 3))] [] (c_X9_line C.2.2.2.2.2.1 (xs (i + 1)) (xs (i + 2)) (xs (i + 3)) _) e1 rfl cb_L_26 im_X9_line se_X9_line rfl (by decide) (by decide) rfl (Nat.le_of_ble_eq_true rfl) dL_law_291 rfl ?_
  refine lj_aload C 1 dL_law_294 rfl rfl ?_
  refine lj_arg C (k := 1) (by omega) dL_law_295 dL_law_296 dL_law_297 rfl dL_law_298 dL_law_299 ?_
  refine lj_arg C (k := 2) (by omega) dL_law_300 dL_law_301 dL_law_302 rfl dL_law_303 dL_law_304 ?_
  refine lj_arg C (k := 3) (by omega) dL_law_305 dL_law_306 dL_law_307 rfl dL_law_308 dL_law_309 ?_
  refine lj_callM C [.int (xs (i + 1)), .int (xs (i + 2)), .int (xs (i + 3))] [.int v] (c_X10_line C.2.2.2.2.2.2.1 (xs (i + 1)) (xs (i + 2)) (xs (i + 3)) _) e2 rfl cb_L_30 im_X10_line se_X10_line rfl (by decide) (by decide) rfl (Nat.le_of_ble_eq_true rfl) dL_law_310 rfl ?_
  exact lj_ieq C dL_law_313 rfl (kk _ _ e3)
theorem lc_2 (C : LCx p s m meth c b L xs Ex Em kc ks) {i : Nat} (hi : i + 7 ≤ L) (h : Rl (En Ex) wx wm) (kk : ∀ wx2 wm2, Rl (En Ex) wx2 wm2 → LJ p e s m below meth c b Ex Em kc ks 1233 (lvL b Ex Em i) [] wx2 wm2) : LJ p e s m below meth c b Ex Em kc ks 318 (lvL b Ex Em i) [] wx wm := by
  obtain ⟨v, wx2, wm2, e1, e2, e3⟩ := k_lose (v1 := (xs (i + 1))) h
  refine lj_aload C 2 dL_law_318 rfl rfl ?_
  refine lj_arg C (k := 1) (by omega) dL_law_319 dL_law_320 dL_law_321 rfl dL_law_322 dL_law_323 ?_
  refine lj_callX C [.int (xs (i + 1))] [] (c_X9_lose C.2.2.2.2.2.1 (xs (i + 1)) _) e1 rfl cb_L_31 im_X9_lose se_X9_lose rfl (by decide) (by decide) rfl (Nat.le_of_ble_eq_true rfl) dL_law_324 rfl ?_
  refine lj_aload C 1 dL_law_327 rfl rfl ?_
  refine lj_arg C (k := 1) (by omega) dL_law_328 dL_law_329 dL_law_330 rfl dL_law_331 dL_law_332 ?_
  refine lj_callM C [.int (xs (i + 1))] [.int v] (c_X10_lose C.2.2.2.2.2.2.1 (xs (i + 1)) _) e2 rfl cb_L_35 im_X10_lose se_X10_lose rfl (by decide) (by decide) rfl (Nat.le_of_ble_eq_true rfl) dL_law_333 rfl ?_
  exact lj_ieq C dL_law_336 rfl (kk _ _ e3)
theorem lc_3 (C : LCx p s m meth c b L xs Ex Em kc ks) {i : Nat} (hi : i + 7 ≤ L) (h : Rl (En Ex) wx wm) (kk : ∀ wx2 wm2, Rl (En Ex) wx2 wm2 → LJ p e s m below meth c b Ex Em kc ks 1233 (lvL b Ex Em i) [] wx2 wm2) : LJ p e s m below meth c b Ex Em kc ks 341 (lvL b Ex Em i) [] wx wm := by
  obtain ⟨v, wx2, wm2, e1, e2, e3⟩ := k_put (v1 := (xs (i + 1))) (v2 := (xs (i + 2))) (v3 := (xs (i + 3))) (v4 := (xs (i + 4))) h
  refine lj_aload C 2 dL_law_341 rfl rfl ?_
  refine lj_arg C (k := 1) (by omega) dL_law_342 dL_law_343 dL_law_344 rfl dL_law_345 dL_law_346 ?_
  refine lj_arg C (k := 2) (by omega) dL_law_347 dL_law_348 dL_law_349 rfl dL_law_350 dL_law_351 ?_
  refine lj_arg C (k := 3) (by omega) dL_law_352 dL_law_353 dL_law_354 rfl dL_law_355 dL_law_356 ?_
  refine lj_arg C (k := 4) (by omega) dL_law_357 dL_law_358 dL_law_359 rfl dL_law_360 dL_law_361 ?_
  refine lj_callX C [.int (xs (i + 1)), .int (xs (i + 2)), .int (xs (i + 3)), .int (xs (i + 4))] [] (c_X9_put C.2.2.2.2.2.1 (xs (i + 1)) (xs (i + 2)) (xs (i + 3)) (xs (i + 4)) _) e1 rfl cb_L_36 im_X9_put se_X9_put rfl (by decide) (by decide) rfl (Nat.le_of_ble_eq_true rfl) dL_law_362 rfl ?_
  refine lj_aload C 1 dL_law_365 rfl rfl ?_
  refine lj_arg C (k := 1) (by omega) dL_law_366 dL_law_367 dL_law_368 rfl dL_law_369 dL_law_370 ?_
  refine lj_arg C (k := 2) (by omega) dL_law_371 dL_law_372 dL_law_373 rfl dL_law_374 dL_law_375 ?_
  refine lj_arg C (k := 3) (by omega) dL_law_376 dL_law_377 dL_law_378 rfl dL_law_379 dL_law_380 ?_
  refine lj_arg C (k := 4) (by omega) dL_law_381 dL_law_382 dL_law_383 rfl dL_law_384 dL_law_385 ?_
  refine lj_callM C [.int (xs (i + 1)), .int (xs (i + 2)), .int (xs (i + 3)), .int (xs (i + 4))] [.int v] (c_X10_put C.2.2.2.2.2.2.1 (xs (i + 1)) (xs (i + 2)) (xs (i + 3)) (xs (i + 4)) _) e2 rfl cb_L_40 im_X10_put se_X10_put rfl (by decide) (by decide) rfl (Nat.le_of_ble_eq_true rfl) dL_law_386 rfl ?_
  exact lj_ieq C dL_law_389 rfl (kk _ _ e3)
theorem lc_4 (C : LCx p s m meth c b L xs Ex Em kc ks) {i : Nat} (hi : i + 7 ≤ L) (h : Rl (En Ex) wx wm) (kk : ∀ wx2 wm2, Rl (En Ex) wx2 wm2 → LJ p e s m below meth c b Ex Em kc ks 1233 (lvL b Ex Em i) [] wx2 wm2) : LJ p e s m below meth c b Ex Em kc ks 394 (lvL b Ex Em i) [] wx wm := by
  obtain ⟨v, wx2, wm2, e1, e2, e3⟩ := k_get (v1 := (xs (i + 1))) (v2 := (xs (i + 2))) (v3 := (xs (i + 3))) h
  refine lj_aload C 2 dL_law_394 rfl rfl ?_
  refine lj_arg C (k := 1) (by omega) dL_law_395 dL_law_396 dL_law_397 rfl dL_law_398 dL_law_399 ?_
  refine lj_arg C (k := 2) (by omega) dL_law_400 dL_law_401 dL_law_402 rfl dL_law_403 dL_law_404 ?_
  refine lj_arg C (k := 3) (by omega) dL_law_405 dL_law_406 dL_law_407 rfl dL_law_408 dL_law_409 ?_
  refine lj_callX C [.int (xs (i + 1)), .int (xs (i + 2)), .int (xs (i + 3))] [] (c_X9_get C.2.2.2.2.2.1 (xs (i + 1)) (xs (i + 2)) (xs (i + 3)) _) e1 rfl cb_L_41 im_X9_get se_X9_get rfl (by decide) (by decide) rfl (Nat.le_of_ble_eq_true rfl) dL_law_410 rfl ?_
  refine lj_aload C 1 dL_law_413 rfl rfl ?_
  refine lj_arg C (k := 1) (by omega) dL_law_414 dL_law_415 dL_law_416 rfl dL_law_417 dL_law_418 ?_
  refine lj_arg C (k := 2) (by omega) dL_law_419 dL_law_420 dL_law_421 rfl dL_law_422 dL_law_423 ?_
  refine lj_arg C (k := 3) (by omega) dL_law_424 dL_law_425 dL_law_426 rfl dL_law_427 dL_law_428 ?_
  refine lj_callM C [.int (xs (i + 1)), .int (xs (i + 2)), .int (xs (i + 3))] [.int v] (c_X10_get C.2.2.2.2.2.2.1 (xs (i + 1)) (xs (i + 2)) (xs (i + 3)) _) e2 rfl cb_L_44 im_X10_get se_X10_get rfl (by decide) (by decide) rfl (Nat.le_of_ble_eq_true rfl) dL_law_429 rfl ?_
  exact lj_ieq C dL_law_432 rfl (kk _ _ e3)
theorem lc_5 (C : LCx p s m meth c b L xs Ex Em kc ks) {i : Nat} (hi : i + 7 ≤ L) (h : Rl (En Ex) wx wm) (kk : ∀ wx2 wm2, Rl (En Ex) wx2 wm2 → LJ p e s m below meth c b Ex Em kc ks 1233 (lvL b Ex Em i) [] wx2 wm2) : LJ p e s m below meth c b Ex Em kc ks 437 (lvL b Ex Em i) [] wx wm := by
  obtain ⟨v, wx2, wm2, e1, e2, e3⟩ := k_copy (v1 := (xs (i + 1))) (v2 := (xs (i + 2))) (v3 := (xs (i + 3))) (v4 := (xs (i + 4))) (v5 := (xs (i + 5))) h
  refine lj_aload C 2 dL_law_437 rfl rfl ?_
  refine lj_arg C (k := 1) (by omega) dL_law_438 dL_law_439 dL_law_440 rfl dL_law_441 dL_law_442 ?_
  refine lj_arg C (k := 2) (by omega) dL_law_443 dL_law_444 dL_law_445 rfl dL_law_446 dL_law_447 ?_
  refine lj_arg C (k := 3) (by omega) dL_law_448 dL_law_449 dL_law_450 rfl dL_law_451 dL_law_452 ?_
  refine lj_arg C (k := 4) (by omega) dL_law_453 dL_law_454 dL_law_455 rfl dL_law_456 dL_law_457 ?_
  refine lj_arg C (k := 5) (by omega) dL_law_458 dL_law_459 dL_law_460 rfl dL_law_461 dL_law_462 ?_
  refine lj_callX C [.int (xs (i + 1)), .int (xs (i + 2)), .int (xs (i + 3)), .int (xs (i + 4)), .int (xs (i + 5))] [] (c_X9_copy C.2.2.2.2.2.1 (xs (i + 1)) (xs (i + 2)) (xs (i + 3)) (xs (i + 4)) (xs (i + 5)) _) e1 rfl cb_L_45 im_X9_copy se_X9_copy rfl (by decide) (by decide) rfl (Nat.le_of_ble_eq_true rfl) dL_law_463 rfl ?_
  refine lj_aload C 1 dL_law_466 rfl rfl ?_
  refine lj_arg C (k := 1) (by omega) dL_law_467 dL_law_468 dL_law_469 rfl dL_law_470 dL_law_471 ?_
  refine lj_arg C (k := 2) (by omega) dL_law_472 dL_law_473 dL_law_474 rfl dL_law_475 dL_law_476 ?_
  refine lj_arg C (k := 3) (by omega) dL_law_477 dL_law_478 dL_law_479 rfl dL_law_480 dL_law_481 ?_
  refine lj_arg C (k := 4) (by omega) dL_law_482 dL_law_483 dL_law_484 rfl dL_law_485 dL_law_486 ?_
  refine lj_arg C (k := 5) (by omega) dL_law_487 dL_law_488 dL_law_489 rfl dL_law_490 dL_law_491 ?_
  refine lj_callM C [.int (xs (i + 1)), .int (xs (i + 2)), .int (xs (i + 3)), .int (xs (i + 4)), .int (xs (i + 5))] [.int v] (c_X10_copy C.2.2.2.2.2.2.1 (xs (i + 1)) (xs (i + 2)) (xs (i + 3)) (xs (i + 4)) (xs (i + 5)) _) e2 rfl cb_L_49 im_X10_copy se_X10_copy rfl (by decide) (by decide) rfl (Nat.le_of_ble_eq_true rfl) dL_law_492 rfl ?_
  exact lj_ieq C dL_law_495 rfl (kk _ _ e3)
theorem lc_6 (C : LCx p s m meth c b L xs Ex Em kc ks) {i : Nat} (hi : i + 7 ≤ L) (h : Rl (En Ex) wx wm) (kk : ∀ wx2 wm2, Rl (En Ex) wx2 wm2 → LJ p e s m below meth c b Ex Em kc ks 1233 (lvL b Ex Em i) [] wx2 wm2) : LJ p e s m below meth c b Ex Em kc ks 500 (lvL b Ex Em i) [] wx wm := by
  obtain ⟨v, wx2, wm2, e1, e2, e3⟩ := k_hand (v1 := (xs (i + 1))) (v2 := (xs (i + 2))) (v3 := (xs (i + 3))) h
  refine lj_aload C 2 dL_law_500 rfl rfl ?_
  refine lj_arg C (k := 1) (by omega) dL_law_501 dL_law_502 dL_law_503 rfl dL_law_504 dL_law_505 ?_
  refine lj_arg C (k := 2) (by omega) dL_law_506 dL_law_507 dL_law_508 rfl dL_law_509 dL_law_510 ?_
  refine lj_arg C (k := 3) (by omega) dL_law_511 dL_law_512 dL_law_513 rfl dL_law_514 dL_law_515 ?_
  refine lj_callX C [.int (xs (i + 1)), .int (xs (i + 2)), .int (xs (i + 3))] [] (c_X9_hand C.2.2.2.2.2.1 (xs (i + 1)) (xs (i + 2)) (xs (i + 3)) _) e1 rfl cb_L_50 im_X9_hand se_X9_hand rfl (by decide) (by decide) rfl (Nat.le_of_ble_eq_true rfl) dL_law_516 rfl ?_
  refine lj_aload C 1 dL_law_519 rfl rfl ?_
  refine lj_arg C (k := 1) (by omega) dL_law_520 dL_law_521 dL_law_522 rfl dL_law_523 dL_law_524 ?_
  refine lj_arg C (k := 2) (by omega) dL_law_525 dL_law_526 dL_law_527 rfl dL_law_528 dL_law_529 ?_
  refine lj_arg C (k := 3) (by omega) dL_law_530 dL_law_531 dL_law_532 rfl dL_law_533 dL_law_534 ?_
  refine lj_callM C [.int (xs (i + 1)), .int (xs (i + 2)), .int (xs (i + 3))] [.int v] (c_X10_hand C.2.2.2.2.2.2.1 (xs (i + 1)) (xs (i + 2)) (xs (i + 3)) _) e2 rfl cb_L_53 im_X10_hand se_X10_hand rfl (by decide) (by decide) rfl (Nat.le_of_ble_eq_true rfl) dL_law_535 rfl ?_
  exact lj_ieq C dL_law_538 rfl (kk _ _ e3)
theorem lc_7 (C : LCx p s m meth c b L xs Ex Em kc ks) {i : Nat} (hi : i + 7 ≤ L) (h : Rl (En Ex) wx wm) (kk : ∀ wx2 wm2, Rl (En Ex) wx2 wm2 → LJ p e s m below meth c b Ex Em kc ks 1233 (lvL b Ex Em i) [] wx2 wm2) : LJ p e s m below meth c b Ex Em kc ks 543 (lvL b Ex Em i) [] wx wm := by
  obtain ⟨v, wx2, wm2, e1, e2, e3⟩ := k_stand (v1 := (xs (i + 1))) h
  refine lj_aload C 2 dL_law_543 rfl rfl ?_
  refine lj_arg C (k := 1) (by omega) dL_law_544 dL_law_545 dL_law_546 rfl dL_law_547 dL_law_548 ?_
  refine lj_callX C [.int (xs (i + 1))] [] (c_X9_stand C.2.2.2.2.2.1 (xs (i + 1)) _) e1 rfl cb_L_54 im_X9_stand se_X9_stand rfl (by decide) (by decide) rfl (Nat.le_of_ble_eq_true rfl) dL_law_549 rfl ?_
  refine lj_aload C 1 dL_law_552 rfl rfl ?_
  refine lj_arg C (k := 1) (by omega) dL_law_553 dL_law_554 dL_law_555 rfl dL_law_556 dL_law_557 ?_
  refine lj_callM C [.int (xs (i + 1))] [.int v] (c_X10_stand C.2.2.2.2.2.2.1 (xs (i + 1)) _) e2 rfl cb_L_57 im_X10_stand se_X10_stand rfl (by decide) (by decide) rfl (Nat.le_of_ble_eq_true rfl) dL_law_558 rfl ?_
  exact lj_ieq C dL_law_561 rfl (kk _ _ e3)
theorem lc_8 (C : LCx p s m meth c b L xs Ex Em kc ks) {i : Nat} (hi : i + 7 ≤ L) (h : Rl (En Ex) wx wm) (kk : ∀ wx2 wm2, Rl (En Ex) wx2 wm2 → LJ p e s m below meth c b Ex Em kc ks 1233 (lvL b Ex Em i) [] wx2 wm2) : LJ p e s m below meth c b Ex Em kc ks 566 (lvL b Ex Em i) [] wx wm := by
  obtain ⟨v, wx2, wm2, e1, e2, e3⟩ := k_clear  h
  refine lj_aload C 2 dL_law_566 rfl rfl ?_
  refine lj_callX C [] [] (c_X9_clear C.2.2.2.2.2.1  _) e1 rfl cb_L_58 im_X9_clear se_X9_clear rfl (by decide) (by decide) rfl (Nat.le_of_ble_eq_true rfl) dL_law_567 rfl ?_
  refine lj_aload C 1 dL_law_570 rfl rfl ?_
  refine lj_callM C [] [.int v] (c_X10_clear C.2.2.2.2.2.2.1  _) e2 rfl cb_L_62 im_X10_clear se_X10_clear rfl (by decide) (by decide) rfl (Nat.le_of_ble_eq_true rfl) dL_law_571 rfl ?_
  exact lj_ieq C dL_law_574 rfl (kk _ _ e3)
theorem lc_9 (C : LCx p s m meth c b L xs Ex Em kc ks) {i : Nat} (hi : i + 7 ≤ L) (h : Rl (En Ex) wx wm) (kk : ∀ wx2 wm2, Rl (En Ex) wx2 wm2 → LJ p e s m below meth c b Ex Em kc ks 1233 (lvL b Ex Em i) [] wx2 wm2) : LJ p e s m below meth c b Ex Em kc ks 579 (lvL b Ex Em i) [] wx wm := by
  obtain ⟨v, wx2, wm2, e1, e2, e3⟩ := k_field (v1 := (xs (i + 1))) h
  refine lj_aload C 2 dL_law_579 rfl rfl ?_
  refine lj_arg C (k := 1) (by omega) dL_law_580 dL_law_581 dL_law_582 rfl dL_law_583 dL_law_584 ?_
  refine lj_callX C [.int (xs (i + 1))] [] (c_X9_field C.2.2.2.2.2.1 (xs (i + 1)) _) e1 rfl cb_L_63 im_X9_field se_X9_field rfl (by decide) (by decide) rfl (Nat.le_of_ble_eq_true rfl) dL_law_585 rfl ?_
  refine lj_aload C 1 dL_law_588 rfl rfl ?_
  refine lj_arg C (k := 1) (by omega) dL_law_589 dL_law_590 dL_law_591 rfl dL_law_592 dL_law_593 ?_
  refine lj_callM C [.int (xs (i + 1))] [.int v] (c_X10_field C.2.2.2.2.2.2.1 (xs (i + 1)) _) e2 rfl cb_L_66 im_X10_field se_X10_field rfl (by decide) (by decide) rfl (Nat.le_of_ble_eq_true rfl) dL_law_594 rfl ?_
  exact lj_ieq C dL_law_597 rfl (kk _ _ e3)
theorem lc_10 (C : LCx p s m meth c b L xs Ex Em kc ks) {i : Nat} (hi : i + 7 ≤ L) (h : Rl (En Ex) wx wm) (kk : ∀ wx2 wm2, Rl (En Ex) wx2 wm2 → LJ p e s m below meth c b Ex Em kc ks 1233 (lvL b Ex Em i) [] wx2 wm2) : LJ p e s m below meth c b Ex Em kc ks 602 (lvL b Ex Em i) [] wx wm := by
  obtain ⟨v, wx2, wm2, e1, e2, e3⟩ := k_has (v1 := (xs (i + 1))) (v2 := (xs (i + 2))) h
  refine lj_aload C 2 dL_law_602 rfl rfl ?_
  refine lj_arg C (k := 1) (by omega) dL_law_603 dL_law_604 dL_law_605 rfl dL_law_606 dL_law_607 ?_
  refine lj_arg C (k := 2) (by omega) dL_law_608 dL_law_609 dL_law_610 rfl dL_law_611 dL_law_612 ?_
  refine lj_callX C [.int (xs (i + 1)), .int (xs (i + 2))] [] (c_X9_has C.2.2.2.2.2.1 (xs (i + 1)) (xs (i + 2)) _) e1 rfl cb_L_67 im_X9_has se_X9_has rfl (by decide) (by decide) rfl (Nat.le_of_ble_eq_true rfl) dL_law_613 rfl ?_
  refine lj_aload C 1 dL_law_616 rfl rfl ?_
  refine lj_arg C (k := 1) (by omega) dL_law_617 dL_law_618 dL_law_619 rfl dL_law_620 dL_law_621 ?_
  refine lj_arg C (k := 2) (by omega) dL_law_622 dL_law_623 dL_law_624 rfl dL_law_625 dL_law_626 ?_
  refine lj_callM C [.int (xs (i + 1)), .int (xs (i + 2))] [.int v] (c_X10_has C.2.2.2.2.2.2.1 (xs (i + 1)) (xs (i + 2)) _) e2 rfl cb_L_71 im_X10_has se_X10_has rfl (by decide) (by decide) rfl (Nat.le_of_ble_eq_true rfl) dL_law_627 rfl ?_
  exact lj_ieq C dL_law_630 rfl (kk _ _ e3)
theorem lc_11 (C : LCx p s m meth c b L xs Ex Em kc ks) {i : Nat} (hi : i + 7 ≤ L) (h : Rl (En Ex) wx wm) (kk : ∀ wx2 wm2, Rl (En Ex) wx2 wm2 → LJ p e s m below meth c b Ex Em kc ks 1233 (lvL b Ex Em i) [] wx2 wm2) : LJ p e s m below meth c b Ex Em kc ks 635 (lvL b Ex Em i) [] wx wm := by
  obtain ⟨v, wx2, wm2, e1, e2, e3⟩ := k_attacks (v1 := (xs (i + 1))) (v2 := (xs (i + 2))) h
  refine lj_aload C 2 dL_law_635 rfl rfl ?_
  refine lj_arg C (k := 1) (by omega) dL_law_636 dL_law_637 dL_law_638 rfl dL_law_639 dL_law_640 ?_
  refine lj_arg C (k := 2) (by omega) dL_law_641 dL_law_642 dL_law_643 rfl dL_law_644 dL_law_645 ?_
  refine lj_callX C [.int (xs (i + 1)), .int (xs (i + 2))] [] (c_X9_attacks C.2.2.2.2.2.1 (xs (i + 1)) (xs (i + 2)) _) e1 rfl cb_L_72 im_X9_attacks se_X9_attacks rfl (by decide) (by decide) rfl (Nat.le_of_ble_eq_true rfl) dL_law_646 rfl ?_
  refine lj_aload C 1 dL_law_649 rfl rfl ?_
  refine lj_arg C (k := 1) (by omega) dL_law_650 dL_law_651 dL_law_652 rfl dL_law_653 dL_law_654 ?_
  refine lj_arg C (k := 2) (by omega) dL_law_655 dL_law_656 dL_law_657 rfl dL_law_658 dL_law_659 ?_
  refine lj_callM C [.int (xs (i + 1)), .int (xs (i + 2))] [.int v] (c_X10_attacks C.2.2.2.2.2.2.1 (xs (i + 1)) (xs (i + 2)) _) e2 rfl cb_L_75 im_X10_attacks se_X10_attacks rfl (by decide) (by decide) rfl (Nat.le_of_ble_eq_true rfl) dL_law_660 rfl ?_
  exact lj_ieq C dL_law_663 rfl (kk _ _ e3)
theorem lc_12 (C : LCx p s m meth c b L xs Ex Em kc ks) {i : Nat} (hi : i + 7 ≤ L) (h : Rl (En Ex) wx wm) (kk : ∀ wx2 wm2, Rl (En Ex) wx2 wm2 → LJ p e s m below meth c b Ex Em kc ks 1233 (lvL b Ex Em i) [] wx2 wm2) : LJ p e s m below meth c b Ex Em kc ks 668 (lvL b Ex Em i) [] wx wm := by
  obtain ⟨v, wx2, wm2, e1, e2, e3⟩ := k_check (v1 := (xs (i + 1))) h
  refine lj_aload C 2 dL_law_668 rfl rfl ?_
  refine lj_arg C (k := 1) (by omega) dL_law_669 dL_law_670 dL_law_671 rfl dL_law_672 dL_law_673 ?_
  refine lj_callX C [.int (xs (i + 1))] [] (c_X9_check C.2.2.2.2.2.1 (xs (i + 1)) _) e1 rfl cb_L_76 im_X9_check se_X9_check rfl (by decide) (by decide) rfl (Nat.le_of_ble_eq_true rfl) dL_law_674 rfl ?_
  refine lj_aload C 1 dL_law_677 rfl rfl ?_
  refine lj_arg C (k := 1) (by omega) dL_law_678 dL_law_679 dL_law_680 rfl dL_law_681 dL_law_682 ?_
  refine lj_callM C [.int (xs (i + 1))] [.int v] (c_X10_check C.2.2.2.2.2.2.1 (xs (i + 1)) _) e2 rfl cb_L_79 im_X10_check se_X10_check rfl (by decide) (by decide) rfl (Nat.le_of_ble_eq_true rfl) dL_law_683 rfl ?_
  exact lj_ieq C dL_law_686 rfl (kk _ _ e3)
theorem lc_13 (C : LCx p s m meth c b L xs Ex Em kc ks) {i : Nat} (hi : i + 7 ≤ L) (h : Rl (En Ex) wx wm) (kk : ∀ wx2 wm2, Rl (En Ex) wx2 wm2 → LJ p e s m below meth c b Ex Em kc ks 1233 (lvL b Ex Em i) [] wx2 wm2) : LJ p e s m below meth c b Ex Em kc ks 691 (lvL b Ex Em i) [] wx wm := by
  obtain ⟨v, wx2, wm2, e1, e2, e3⟩ := k_moves  h
  refine lj_aload C 2 dL_law_691 rfl rfl ?_
  refine lj_callX C [] [] (c_X9_moves C.2.2.2.2.2.1  _) e1 rfl cb_L_80 im_X9_moves se_X9_moves rfl (by decide) (by decide) rfl (Nat.le_of_ble_eq_true rfl) dL_law_692 rfl ?_
  refine lj_aload C 1 dL_law_695 rfl rfl ?_
  refine lj_callM C [] [.int v] (c_X10_moves C.2.2.2.2.2.2.1  _) e2 rfl cb_L_83 im_X10_moves se_X10_moves rfl (by decide) (by decide) rfl (Nat.le_of_ble_eq_true rfl) dL_law_696 rfl ?_
  exact lj_ieq C dL_law_699 rfl (kk _ _ e3)
theorem lc_14 (C : LCx p s m meth c b L xs Ex Em kc ks) {i : Nat} (hi : i + 7 ≤ L) (h : Rl (En Ex) wx wm) (kk : ∀ wx2 wm2, Rl (En Ex) wx2 wm2 → LJ p e s m below meth c b Ex Em kc ks 1233 (lvL b Ex Em i) [] wx2 wm2) : LJ p e s m below meth c b Ex Em kc ks 704 (lvL b Ex Em i) [] wx wm := by
  obtain ⟨v, wx2, wm2, e1, e2, e3⟩ := k_move (v1 := (xs (i + 1))) (v2 := (xs (i + 2))) h
  refine lj_aload C 2 dL_law_704 rfl rfl ?_
  refine lj_arg C (k := 1) (by omega) dL_law_705 dL_law_706 dL_law_707 rfl dL_law_708 dL_law_709 ?_
  refine lj_arg C (k := 2) (by omega) dL_law_710 dL_law_711 dL_law_712 rfl dL_law_713 dL_law_714 ?_
  refine lj_callX C [.int (xs (i + 1)), .int (xs (i + 2))] [] (c_X9_move C.2.2.2.2.2.1 (xs (i + 1)) (xs (i + 2)) _) e1 rfl cb_L_84 im_X9_move se_X9_move rfl (by decide) (by decide) rfl (Nat.le_of_ble_eq_true rfl) dL_law_715 rfl ?_
  refine lj_aload C 1 dL_law_718 rfl rfl ?_
  refine lj_arg C (k := 1) (by omega) dL_law_719 dL_law_720 dL_law_721 rfl dL_law_722 dL_law_723 ?_
  refine lj_arg C (k := 2) (by omega) dL_law_724 dL_law_725 dL_law_726 rfl dL_law_727 dL_law_728 ?_
  refine lj_callM C [.int (xs (i + 1)), .int (xs (i + 2))] [.int v] (c_X10_move C.2.2.2.2.2.2.1 (xs (i + 1)) (xs (i + 2)) _) e2 rfl cb_L_87 im_X10_move se_X10_move rfl (by decide) (by decide) rfl (Nat.le_of_ble_eq_true rfl) dL_law_729 rfl ?_
  exact lj_ieq C dL_law_732 rfl (kk _ _ e3)
theorem lc_15 (C : LCx p s m meth c b L xs Ex Em kc ks) {i : Nat} (hi : i + 7 ≤ L) (h : Rl (En Ex) wx wm) (kk : ∀ wx2 wm2, Rl (En Ex) wx2 wm2 → LJ p e s m below meth c b Ex Em kc ks 1233 (lvL b Ex Em i) [] wx2 wm2) : LJ p e s m below meth c b Ex Em kc ks 737 (lvL b Ex Em i) [] wx wm := by
  obtain ⟨v, wx2, wm2, e1, e2, e3⟩ := k_why (v1 := (xs (i + 1))) (v2 := (xs (i + 2))) (v3 := (bz (xs (i + 3)))) h
  refine lj_aload C 2 dL_law_737 rfl rfl ?_
  refine lj_arg C (k := 1) (by omega) dL_law_738 dL_law_739 dL_law_740 rfl dL_law_741 dL_law_742 ?_
  refine lj_arg C (k := 2) (by omega) dL_law_743 dL_law_744 dL_law_745 rfl dL_law_746 dL_law_747 ?_
  refine lj_arg C (k := 3) (by omega) dL_law_748 dL_law_749 dL_law_750 rfl dL_law_751 dL_law_752 ?_
  refine lj_bool C dL_law_753 rfl dL_law_756 dL_law_757 rfl dL_law_760 ?_
  refine lj_callX C [.int (xs (i + 1)), .int (xs (i + 2)), .int (bz (xs (i + 3)))] [] (c_X9_why C.2.2.2.2.2.1 (xs (i + 1)) (xs (i + 2)) (bz (xs (i + 3))) _) e1 rfl cb_L_88 im_X9_why se_X9_why rfl (by decide) (by decide) rfl (Nat.le_of_ble_eq_true rfl) dL_law_761 rfl ?_
  refine lj_aload C 1 dL_law_764 rfl rfl ?_
  refine lj_arg C (k := 1) (by omega) dL_law_765 dL_law_766 dL_law_767 rfl dL_law_768 dL_law_769 ?_
  refine lj_arg C (k := 2) (by omega) dL_law_770 dL_law_771 dL_law_772 rfl dL_law_773 dL_law_774 ?_
  refine lj_arg C (k := 3) (by omega) dL_law_775 dL_law_776 dL_law_777 rfl dL_law_778 dL_law_779 ?_
  refine lj_bool C dL_law_780 rfl dL_law_783 dL_law_784 rfl dL_law_787 ?_
  refine lj_callM C [.int (xs (i + 1)), .int (xs (i + 2)), .int (bz (xs (i + 3)))] [.int v] (c_X10_why C.2.2.2.2.2.2.1 (xs (i + 1)) (xs (i + 2)) (bz (xs (i + 3))) _) e2 rfl cb_L_92 im_X10_why se_X10_why rfl (by decide) (by decide) rfl (Nat.le_of_ble_eq_true rfl) dL_law_788 rfl ?_
  exact lj_ieq C dL_law_791 rfl (kk _ _ e3)
theorem lc_16 (C : LCx p s m meth c b L xs Ex Em kc ks) {i : Nat} (hi : i + 7 ≤ L) (h : Rl (En Ex) wx wm) (kk : ∀ wx2 wm2, Rl (En Ex) wx2 wm2 → LJ p e s m below meth c b Ex Em kc ks 1233 (lvL b Ex Em i) [] wx2 wm2) : LJ p e s m below meth c b Ex Em kc ks 796 (lvL b Ex Em i) [] wx wm := by
  obtain ⟨v, wx2, wm2, e1, e2, e3⟩ := k_whySet (v1 := (xs (i + 1))) (v2 := (xs (i + 2))) h
  refine lj_aload C 2 dL_law_796 rfl rfl ?_
  refine lj_arg C (k := 1) (by omega) dL_law_797 dL_law_798 dL_law_799 rfl dL_law_800 dL_law_801 ?_
  refine lj_arg C (k := 2) (by omega) dL_law_802 dL_law_803 dL_law_804 rfl dL_law_805 dL_law_806 ?_
  refine lj_callX C [.int (xs (i + 1)), .int (xs (i + 2))] [] (c_X9_whySet C.2.2.2.2.2.1 (xs (i + 1)) (xs (i + 2)) _) e1 rfl cb_L_93 im_X9_whySet se_X9_whySet rfl (by decide) (by decide) rfl (Nat.le_of_ble_eq_true rfl) dL_law_807 rfl ?_
  refine lj_aload C 1 dL_law_810 rfl rfl ?_
  refine lj_arg C (k := 1) (by omega) dL_law_811 dL_law_812 dL_law_813 rfl dL_law_814 dL_law_815 ?_
  refine lj_arg C (k := 2) (by omega) dL_law_816 dL_law_817 dL_law_818 rfl dL_law_819 dL_law_820 ?_
  refine lj_callM C [.int (xs (i + 1)), .int (xs (i + 2))] [.int v] (c_X10_whySet C.2.2.2.2.2.2.1 (xs (i + 1)) (xs (i + 2)) _) e2 rfl cb_L_96 im_X10_whySet se_X10_whySet rfl (by decide) (by decide) rfl (Nat.le_of_ble_eq_true rfl) dL_law_821 rfl ?_
  exact lj_ieq C dL_law_824 rfl (kk _ _ e3)
theorem lc_17 (C : LCx p s m meth c b L xs Ex Em kc ks) {i : Nat} (hi : i + 7 ≤ L) (h : Rl (En Ex) wx wm) (kk : ∀ wx2 wm2, Rl (En Ex) wx2 wm2 → LJ p e s m below meth c b Ex Em kc ks 1233 (lvL b Ex Em i) [] wx2 wm2) : LJ p e s m below meth c b Ex Em kc ks 829 (lvL b Ex Em i) [] wx wm := by
  obtain ⟨v, wx2, wm2, e1, e2, e3⟩ := k_rows (v1 := (xs (i + 1))) h
  refine lj_aload C 2 dL_law_829 rfl rfl ?_
  refine lj_arg C (k := 1) (by omega) dL_law_830 dL_law_831 dL_law_832 rfl dL_law_833 dL_law_834 ?_
  refine lj_callX C [.int (xs (i + 1))] [] (c_X9_rows C.2.2.2.2.2.1 (xs (i + 1)) _) e1 rfl cb_L_97 im_X9_rows se_X9_rows rfl (by decide) (by decide) rfl (Nat.le_of_ble_eq_true rfl) dL_law_835 rfl ?_
  refine lj_aload C 1 dL_law_838 rfl rfl ?_
  refine lj_arg C (k := 1) (by omega) dL_law_839 dL_law_840 dL_law_841 rfl dL_law_842 dL_law_843 ?_
  refine lj_callM C [.int (xs (i + 1))] [.int v] (c_X10_rows C.2.2.2.2.2.2.1 (xs (i + 1)) _) e2 rfl cb_L_100 im_X10_rows se_X10_rows rfl (by decide) (by decide) rfl (Nat.le_of_ble_eq_true rfl) dL_law_844 rfl ?_
  exact lj_ieq C dL_law_847 rfl (kk _ _ e3)
theorem lc_18 (C : LCx p s m meth c b L xs Ex Em kc ks) {i : Nat} (hi : i + 7 ≤ L) (h : Rl (En Ex) wx wm) (kk : ∀ wx2 wm2, Rl (En Ex) wx2 wm2 → LJ p e s m below meth c b Ex Em kc ks 1233 (lvL b Ex Em i) [] wx2 wm2) : LJ p e s m below meth c b Ex Em kc ks 852 (lvL b Ex Em i) [] wx wm := by
  obtain ⟨v, wx2, wm2, e1, e2, e3⟩ := k_go (v1 := (xs (i + 1))) h
  refine lj_aload C 2 dL_law_852 rfl rfl ?_
  refine lj_arg C (k := 1) (by omega) dL_law_853 dL_law_854 dL_law_855 rfl dL_law_856 dL_law_857 ?_
  refine lj_callX C [.int (xs (i + 1))] [] (c_X9_go C.2.2.2.2.2.1 (xs (i + 1)) _) e1 rfl cb_L_101 im_X9_go se_X9_go rfl (by decide) (by decide) rfl (Nat.le_of_ble_eq_true rfl) dL_law_858 rfl ?_
  refine lj_aload C 1 dL_law_861 rfl rfl ?_
  refine lj_arg C (k := 1) (by omega) dL_law_862 dL_law_863 dL_law_864 rfl dL_law_865 dL_law_866 ?_
  refine lj_callM C [.int (xs (i + 1))] [.int v] (c_X10_go C.2.2.2.2.2.2.1 (xs (i + 1)) _) e2 rfl cb_L_104 im_X10_go se_X10_go rfl (by decide) (by decide) rfl (Nat.le_of_ble_eq_true rfl) dL_law_867 rfl ?_
  exact lj_ieq C dL_law_870 rfl (kk _ _ e3)
theorem lc_19 (C : LCx p s m meth c b L xs Ex Em kc ks) {i : Nat} (hi : i + 7 ≤ L) (h : Rl (En Ex) wx wm) (kk : ∀ wx2 wm2, Rl (En Ex) wx2 wm2 → LJ p e s m below meth c b Ex Em kc ks 1233 (lvL b Ex Em i) [] wx2 wm2) : LJ p e s m below meth c b Ex Em kc ks 875 (lvL b Ex Em i) [] wx wm := by
  obtain ⟨v, wx2, wm2, e1, e2, e3⟩ := k_back  h
  refine lj_aload C 2 dL_law_875 rfl rfl ?_
  refine lj_callX C [] [] (c_X9_back C.2.2.2.2.2.1  _) e1 rfl cb_L_105 im_X9_back se_X9_back rfl (by decide) (by decide) rfl (Nat.le_of_ble_eq_true rfl) dL_law_876 rfl ?_
  refine lj_aload C 1 dL_law_879 rfl rfl ?_
  refine lj_callM C [] [.int v] (c_X10_back C.2.2.2.2.2.2.1  _) e2 rfl cb_L_108 im_X10_back se_X10_back rfl (by decide) (by decide) rfl (Nat.le_of_ble_eq_true rfl) dL_law_880 rfl ?_
  exact lj_ieq C dL_law_883 rfl (kk _ _ e3)
theorem lc_20 (C : LCx p s m meth c b L xs Ex Em kc ks) {i : Nat} (hi : i + 7 ≤ L) (h : Rl (En Ex) wx wm) (kk : ∀ wx2 wm2, Rl (En Ex) wx2 wm2 → LJ p e s m below meth c b Ex Em kc ks 1233 (lvL b Ex Em i) [] wx2 wm2) : LJ p e s m below meth c b Ex Em kc ks 888 (lvL b Ex Em i) [] wx wm := by
  obtain ⟨v, wx2, wm2, e1, e2, e3⟩ := k_forth  h
  refine lj_aload C 2 dL_law_888 rfl rfl ?_
  refine lj_callX C [] [] (c_X9_forth C.2.2.2.2.2.1  _) e1 rfl cb_L_109 im_X9_forth se_X9_forth rfl (by decide) (by decide) rfl (Nat.le_of_ble_eq_true rfl) dL_law_889 rfl ?_
  refine lj_aload C 1 dL_law_892 rfl rfl ?_
  refine lj_callM C [] [.int v] (c_X10_forth C.2.2.2.2.2.2.1  _) e2 rfl cb_L_112 im_X10_forth se_X10_forth rfl (by decide) (by decide) rfl (Nat.le_of_ble_eq_true rfl) dL_law_893 rfl ?_
  exact lj_ieq C dL_law_896 rfl (kk _ _ e3)
theorem lc_21 (C : LCx p s m meth c b L xs Ex Em kc ks) {i : Nat} (hi : i + 7 ≤ L) (h : Rl (En Ex) wx wm) (kk : ∀ wx2 wm2, Rl (En Ex) wx2 wm2 → LJ p e s m below meth c b Ex Em kc ks 1233 (lvL b Ex Em i) [] wx2 wm2) : LJ p e s m below meth c b Ex Em kc ks 901 (lvL b Ex Em i) [] wx wm := by
  obtain ⟨v, wx2, wm2, e1, e2, e3⟩ := k_play (v1 := (xs (i + 1))) h
  refine lj_aload C 2 dL_law_901 rfl rfl ?_
  refine lj_arg C (k := 1) (by omega) dL_law_902 dL_law_903 dL_law_904 rfl dL_law_905 dL_law_906 ?_
  refine lj_callX C [.int (xs (i + 1))] [] (c_X9_play C.2.2.2.2.2.1 (xs (i + 1)) _) e1 rfl cb_L_113 im_X9_play se_X9_play rfl (by decide) (by decide) rfl (Nat.le_of_ble_eq_true rfl) dL_law_907 rfl ?_
  refine lj_aload C 1 dL_law_910 rfl rfl ?_
  refine lj_arg C (k := 1) (by omega) dL_law_911 dL_law_912 dL_law_913 rfl dL_law_914 dL_law_915 ?_
  refine lj_callM C [.int (xs (i + 1))] [.int v] (c_X10_play C.2.2.2.2.2.2.1 (xs (i + 1)) _) e2 rfl cb_L_116 im_X10_play se_X10_play rfl (by decide) (by decide) rfl (Nat.le_of_ble_eq_true rfl) dL_law_916 rfl ?_
  exact lj_ieq C dL_law_919 rfl (kk _ _ e3)
theorem lc_22 (C : LCx p s m meth c b L xs Ex Em kc ks) {i : Nat} (hi : i + 7 ≤ L) (h : Rl (En Ex) wx wm) (kk : ∀ wx2 wm2, Rl (En Ex) wx2 wm2 → LJ p e s m below meth c b Ex Em kc ks 1233 (lvL b Ex Em i) [] wx2 wm2) : LJ p e s m below meth c b Ex Em kc ks 924 (lvL b Ex Em i) [] wx wm := by
  obtain ⟨v, wx2, wm2, e1, e2, e3⟩ := k_fuel (v := (xs (i + 1))) h
  refine lj_aload C 2 dL_law_924 rfl rfl ?_
  refine lj_arg C (k := 1) (by omega) dL_law_925 dL_law_926 dL_law_927 rfl dL_law_928 dL_law_929 ?_
  refine lj_callX C [.int (xs (i + 1))] [] (c_X9_fuel C.2.2.2.2.2.1 (xs (i + 1)) _) e1 rfl cb_L_117 im_X9_fuel se_X9_fuel rfl (by decide) (by decide) rfl (Nat.le_of_ble_eq_true rfl) dL_law_930 rfl ?_
  refine lj_aload C 1 dL_law_933 rfl rfl ?_
  refine lj_arg C (k := 1) (by omega) dL_law_934 dL_law_935 dL_law_936 rfl dL_law_937 dL_law_938 ?_
  refine lj_callM C [.int (xs (i + 1))] [.int v] (c_X10_fuel C.2.2.2.2.2.2.1 (xs (i + 1)) _) e2 rfl cb_L_120 im_X10_fuel se_X10_fuel rfl (by decide) (by decide) rfl (Nat.le_of_ble_eq_true rfl) dL_law_939 rfl ?_
  exact lj_ieq C dL_law_942 rfl (kk _ _ e3)
theorem lc_23 (C : LCx p s m meth c b L xs Ex Em kc ks) {i : Nat} (hi : i + 7 ≤ L) (h : Rl (En Ex) wx wm) (kk : ∀ wx2 wm2, Rl (En Ex) wx2 wm2 → LJ p e s m below meth c b Ex Em kc ks 1233 (lvL b Ex Em i) [] wx2 wm2) : LJ p e s m below meth c b Ex Em kc ks 947 (lvL b Ex Em i) [] wx wm := by
  obtain ⟨v, wx2, wm2, e1, e2, e3⟩ := k_hunt (v1 := (xs (i + 1))) h
  refine lj_aload C 2 dL_law_947 rfl rfl ?_
  refine lj_arg C (k := 1) (by omega) dL_law_948 dL_law_949 dL_law_950 rfl dL_law_951 dL_law_952 ?_
  refine lj_callX C [.int (xs (i + 1))] [] (c_X9_hunt C.2.2.2.2.2.1 (xs (i + 1)) _) e1 rfl cb_L_121 im_X9_hunt se_X9_hunt rfl (by decide) (by decide) rfl (Nat.le_of_ble_eq_true rfl) dL_law_953 rfl ?_
  refine lj_aload C 1 dL_law_956 rfl rfl ?_
  refine lj_arg C (k := 1) (by omega) dL_law_957 dL_law_958 dL_law_959 rfl dL_law_960 dL_law_961 ?_
  refine lj_callM C [.int (xs (i + 1))] [.int v] (c_X10_hunt C.2.2.2.2.2.2.1 (xs (i + 1)) _) e2 rfl cb_L_124 im_X10_hunt se_X10_hunt rfl (by decide) (by decide) rfl (Nat.le_of_ble_eq_true rfl) dL_law_962 rfl ?_
  exact lj_ieq C dL_law_965 rfl (kk _ _ e3)
theorem lc_24 (C : LCx p s m meth c b L xs Ex Em kc ks) {i : Nat} (hi : i + 7 ≤ L) (h : Rl (En Ex) wx wm) (kk : ∀ wx2 wm2, Rl (En Ex) wx2 wm2 → LJ p e s m below meth c b Ex Em kc ks 1233 (lvL b Ex Em i) [] wx2 wm2) : LJ p e s m below meth c b Ex Em kc ks 970 (lvL b Ex Em i) [] wx wm := by
  obtain ⟨v, wx2, wm2, e1, e2, e3⟩ := k_spent  h
  refine lj_aload C 2 dL_law_970 rfl rfl ?_
  refine lj_callX C [] [] (c_X9_spent C.2.2.2.2.2.1  _) e1 rfl cb_L_125 im_X9_spent se_X9_spent rfl (by decide) (by decide) rfl (Nat.le_of_ble_eq_true rfl) dL_law_971 rfl ?_
  refine lj_aload C 1 dL_law_974 rfl rfl ?_
  refine lj_callM C [] [.int v] (c_X10_spent C.2.2.2.2.2.2.1  _) e2 rfl cb_L_128 im_X10_spent se_X10_spent rfl (by decide) (by decide) rfl (Nat.le_of_ble_eq_true rfl) dL_law_975 rfl ?_
  exact lj_ieq C dL_law_978 rfl (kk _ _ e3)
theorem lc_25 (C : LCx p s m meth c b L xs Ex Em kc ks) {i : Nat} (hi : i + 7 ≤ L) (h : Rl (En Ex) wx wm) (kk : ∀ wx2 wm2, Rl (En Ex) wx2 wm2 → LJ p e s m below meth c b Ex Em kc ks 1233 (lvL b Ex Em i) [] wx2 wm2) : LJ p e s m below meth c b Ex Em kc ks 983 (lvL b Ex Em i) [] wx wm := by
  obtain ⟨v, wx2, wm2, e1, e2, e3⟩ := k_tree  h
  refine lj_aload C 2 dL_law_983 rfl rfl ?_
  refine lj_callX C [] [] (c_X9_tree C.2.2.2.2.2.1  _) e1 rfl cb_L_129 im_X9_tree se_X9_tree rfl (by decide) (by decide) rfl (Nat.le_of_ble_eq_true rfl) dL_law_984 rfl ?_
  refine lj_aload C 1 dL_law_987 rfl rfl ?_
  refine lj_callM C [] [.int v] (c_X10_tree C.2.2.2.2.2.2.1  _) e2 rfl cb_L_132 im_X10_tree se_X10_tree rfl (by decide) (by decide) rfl (Nat.le_of_ble_eq_true rfl) dL_law_988 rfl ?_
  exact lj_ieq C dL_law_991 rfl (kk _ _ e3)
theorem lc_26 (C : LCx p s m meth c b L xs Ex Em kc ks) {i : Nat} (hi : i + 7 ≤ L) (h : Rl (En Ex) wx wm) (kk : ∀ wx2 wm2, Rl (En Ex) wx2 wm2 → LJ p e s m below meth c b Ex Em kc ks 1233 (lvL b Ex Em i) [] wx2 wm2) : LJ p e s m below meth c b Ex Em kc ks 996 (lvL b Ex Em i) [] wx wm := by
  obtain ⟨v, wx2, wm2, e1, e2, e3⟩ := k_node (v1 := (xs (i + 1))) (v2 := (xs (i + 2))) h
  refine lj_aload C 2 dL_law_996 rfl rfl ?_
  refine lj_arg C (k := 1) (by omega) dL_law_997 dL_law_998 dL_law_999 rfl dL_law_1000 dL_law_1001 ?_
  refine lj_arg C (k := 2) (by omega) dL_law_1002 dL_law_1003 dL_law_1004 rfl dL_law_1005 dL_law_1006 ?_
  refine lj_callX C [.int (xs (i + 1)), .int (xs (i + 2))] [] (c_X9_node C.2.2.2.2.2.1 (xs (i + 1)) (xs (i + 2)) _) e1 rfl cb_L_133 im_X9_node se_X9_node rfl (by decide) (by decide) rfl (Nat.le_of_ble_eq_true rfl) dL_law_1007 rfl ?_
  refine lj_aload C 1 dL_law_1010 rfl rfl ?_
  refine lj_arg C (k := 1) (by omega) dL_law_1011 dL_law_1012 dL_law_1013 rfl dL_law_1014 dL_law_1015 ?_
  refine lj_arg C (k := 2) (by omega) dL_law_1016 dL_law_1017 dL_law_1018 rfl dL_law_1019 dL_law_1020 ?_
  refine lj_callM C [.int (xs (i + 1)), .int (xs (i + 2))] [.int v] (c_X10_node C.2.2.2.2.2.2.1 (xs (i + 1)) (xs (i + 2)) _) e2 rfl cb_L_136 im_X10_node se_X10_node rfl (by decide) (by decide) rfl (Nat.le_of_ble_eq_true rfl) dL_law_1021 rfl ?_
  exact lj_ieq C dL_law_1024 rfl (kk _ _ e3)
theorem lc_27 (C : LCx p s m meth c b L xs Ex Em kc ks) {i : Nat} (hi : i + 7 ≤ L) (h : Rl (En Ex) wx wm) (kk : ∀ wx2 wm2, Rl (En Ex) wx2 wm2 → LJ p e s m below meth c b Ex Em kc ks 1233 (lvL b Ex Em i) [] wx2 wm2) : LJ p e s m below meth c b Ex Em kc ks 1029 (lvL b Ex Em i) [] wx wm := by
  obtain ⟨v, wx2, wm2, e1, e2, e3⟩ := k_forge (v1 := (xs (i + 1))) (v2 := (xs (i + 2))) (v3 := (xs (i + 3))) (v4 := (bz (xs (i + 4)))) (v5 := (xs (i + 5))) h
  refine lj_aload C 2 dL_law_1029 rfl rfl ?_
  refine lj_arg C (k := 1) (by omega) dL_law_1030 dL_law_1031 dL_law_1032 rfl dL_law_1033 dL_law_1034 ?_
  refine lj_arg C (k := 2) (by omega) dL_law_1035 dL_law_1036 dL_law_1037 rfl dL_law_1038 dL_law_1039 ?_
  refine lj_arg C (k := 3) (by omega) dL_law_1040 dL_law_1041 dL_law_1042 rfl dL_law_1043 dL_law_1044 ?_
  refine lj_arg C (k := 4) (by omega) dL_law_1045 dL_law_1046 dL_law_1047 rfl dL_law_1048 dL_law_1049 ?_
  refine lj_bool C dL_law_1050 rfl dL_law_1053 dL_law_1054 rfl dL_law_1057 ?_
  refine lj_arg C (k := 5) (by omega) dL_law_1058 dL_law_1059 dL_law_1060 rfl dL_law_1061 dL_law_1062 ?_
  refine lj_callX C [.int (xs (i + 1)), .int (xs (i + 2)), .int (xs (i + 3)), .int (bz (xs (i + 4))), .int (xs (i + 5))] [] (c_X9_forge C.2.2.2.2.2.1 (xs (i + 1)) (xs (i + 2)) (xs (i + 3)) (bz (xs (i + 4))) (xs (i + 5)) _) e1 rfl cb_L_137 im_X9_forge se_X9_forge rfl (by decide) (by decide) rfl (Nat.le_of_ble_eq_true rfl) dL_law_1063 rfl ?_
  refine lj_aload C 1 dL_law_1066 rfl rfl ?_
  refine lj_arg C (k := 1) (by omega) dL_law_1067 dL_law_1068 dL_law_1069 rfl dL_law_1070 dL_law_1071 ?_
  refine lj_arg C (k := 2) (by omega) dL_law_1072 dL_law_1073 dL_law_1074 rfl dL_law_1075 dL_law_1076 ?_
  refine lj_arg C (k := 3) (by omega) dL_law_1077 dL_law_1078 dL_law_1079 rfl dL_law_1080 dL_law_1081 ?_
  refine lj_arg C (k := 4) (by omega) dL_law_1082 dL_law_1083 dL_law_1084 rfl dL_law_1085 dL_law_1086 ?_
  refine lj_bool C dL_law_1087 rfl dL_law_1090 dL_law_1091 rfl dL_law_1094 ?_
  refine lj_arg C (k := 5) (by omega) dL_law_1095 dL_law_1096 dL_law_1097 rfl dL_law_1098 dL_law_1099 ?_
  refine lj_callM C [.int (xs (i + 1)), .int (xs (i + 2)), .int (xs (i + 3)), .int (bz (xs (i + 4))), .int (xs (i + 5))] [.int v] (c_X10_forge C.2.2.2.2.2.2.1 (xs (i + 1)) (xs (i + 2)) (xs (i + 3)) (bz (xs (i + 4))) (xs (i + 5)) _) e2 rfl cb_L_141 im_X10_forge se_X10_forge rfl (by decide) (by decide) rfl (Nat.le_of_ble_eq_true rfl) dL_law_1100 rfl ?_
  exact lj_ieq C dL_law_1103 rfl (kk _ _ e3)
theorem lc_28 (C : LCx p s m meth c b L xs Ex Em kc ks) {i : Nat} (hi : i + 7 ≤ L) (h : Rl (En Ex) wx wm) (kk : ∀ wx2 wm2, Rl (En Ex) wx2 wm2 → LJ p e s m below meth c b Ex Em kc ks 1233 (lvL b Ex Em i) [] wx2 wm2) : LJ p e s m below meth c b Ex Em kc ks 1108 (lvL b Ex Em i) [] wx wm := by
  obtain ⟨v, wx2, wm2, e1, e2, e3⟩ := k_verify  h
  refine lj_aload C 2 dL_law_1108 rfl rfl ?_
  refine lj_callX C [] [] (c_X9_verify C.2.2.2.2.2.1  _) e1 rfl cb_L_142 im_X9_verify se_X9_verify rfl (by decide) (by decide) rfl (Nat.le_of_ble_eq_true rfl) dL_law_1109 rfl ?_
  refine lj_aload C 1 dL_law_1112 rfl rfl ?_
  refine lj_callM C [] [.int v] (c_X10_verify C.2.2.2.2.2.2.1  _) e2 rfl cb_L_145 im_X10_verify se_X10_verify rfl (by decide) (by decide) rfl (Nat.le_of_ble_eq_true rfl) dL_law_1113 rfl ?_
  exact lj_ieq C dL_law_1116 rfl (kk _ _ e3)
theorem lc_29 (C : LCx p s m meth c b L xs Ex Em kc ks) {i : Nat} (hi : i + 7 ≤ L) (h : Rl (En Ex) wx wm) (kk : ∀ wx2 wm2, Rl (En Ex) wx2 wm2 → LJ p e s m below meth c b Ex Em kc ks 1233 (lvL b Ex Em i) [] wx2 wm2) : LJ p e s m below meth c b Ex Em kc ks 1121 (lvL b Ex Em i) [] wx wm := by
  obtain ⟨v, wx2, wm2, e1, e2, e3⟩ := k_write  h
  refine lj_aload C 2 dL_law_1121 rfl rfl ?_
  refine lj_callX C [] [] (c_X9_write C.2.2.2.2.2.1  _) e1 rfl cb_L_146 im_X9_write se_X9_write rfl (by decide) (by decide) rfl (Nat.le_of_ble_eq_true rfl) dL_law_1122 rfl ?_
  refine lj_aload C 1 dL_law_1125 rfl rfl ?_
  refine lj_callM C [] [.int v] (c_X10_write C.2.2.2.2.2.2.1  _) e2 rfl cb_L_149 im_X10_write se_X10_write rfl (by decide) (by decide) rfl (Nat.le_of_ble_eq_true rfl) dL_law_1126 rfl ?_
  exact lj_ieq C dL_law_1129 rfl (kk _ _ e3)
theorem lc_30 (C : LCx p s m meth c b L xs Ex Em kc ks) {i : Nat} (hi : i + 7 ≤ L) (h : Rl (En Ex) wx wm) (kk : ∀ wx2 wm2, Rl (En Ex) wx2 wm2 → LJ p e s m below meth c b Ex Em kc ks 1233 (lvL b Ex Em i) [] wx2 wm2) : LJ p e s m below meth c b Ex Em kc ks 1134 (lvL b Ex Em i) [] wx wm := by
  obtain ⟨v, wx2, wm2, e1, e2, e3⟩ := k_type (v := (xs (i + 1))) h
  refine lj_aload C 2 dL_law_1134 rfl rfl ?_
  refine lj_arg C (k := 1) (by omega) dL_law_1135 dL_law_1136 dL_law_1137 rfl dL_law_1138 dL_law_1139 ?_
  refine lj_callX C [.int (xs (i + 1))] [] (c_X9_type C.2.2.2.2.2.1 (xs (i + 1)) _) e1 rfl cb_L_150 im_X9_type se_X9_type rfl (by decide) (by decide) rfl (Nat.le_of_ble_eq_true rfl) dL_law_1140 rfl ?_
  refine lj_aload C 1 dL_law_1143 rfl rfl ?_
  refine lj_arg C (k := 1) (by omega) dL_law_1144 dL_law_1145 dL_law_1146 rfl dL_law_1147 dL_law_1148 ?_
  refine lj_callM C [.int (xs (i + 1))] [.int v] (c_X10_type C.2.2.2.2.2.2.1 (xs (i + 1)) _) e2 rfl cb_L_153 im_X10_type se_X10_type rfl (by decide) (by decide) rfl (Nat.le_of_ble_eq_true rfl) dL_law_1149 rfl ?_
  exact lj_ieq C dL_law_1152 rfl (kk _ _ e3)
theorem lc_31 (C : LCx p s m meth c b L xs Ex Em kc ks) {i : Nat} (hi : i + 7 ≤ L) (h : Rl (En Ex) wx wm) (kk : ∀ wx2 wm2, Rl (En Ex) wx2 wm2 → LJ p e s m below meth c b Ex Em kc ks 1233 (lvL b Ex Em i) [] wx2 wm2) : LJ p e s m below meth c b Ex Em kc ks 1157 (lvL b Ex Em i) [] wx wm := by
  obtain ⟨v, wx2, wm2, e1, e2, e3⟩ := k_wipe  h
  refine lj_aload C 2 dL_law_1157 rfl rfl ?_
  refine lj_callX C [] [] (c_X9_wipe C.2.2.2.2.2.1  _) e1 rfl cb_L_154 im_X9_wipe se_X9_wipe rfl (by decide) (by decide) rfl (Nat.le_of_ble_eq_true rfl) dL_law_1158 rfl ?_
  refine lj_aload C 1 dL_law_1161 rfl rfl ?_
  refine lj_callM C [] [.int v] (c_X10_wipe C.2.2.2.2.2.2.1  _) e2 rfl cb_L_157 im_X10_wipe se_X10_wipe rfl (by decide) (by decide) rfl (Nat.le_of_ble_eq_true rfl) dL_law_1162 rfl ?_
  exact lj_ieq C dL_law_1165 rfl (kk _ _ e3)
theorem lc_32 (C : LCx p s m meth c b L xs Ex Em kc ks) {i : Nat} (hi : i + 7 ≤ L) (h : Rl (En Ex) wx wm) (kk : ∀ wx2 wm2, Rl (En Ex) wx2 wm2 → LJ p e s m below meth c b Ex Em kc ks 1233 (lvL b Ex Em i) [] wx2 wm2) : LJ p e s m below meth c b Ex Em kc ks 1170 (lvL b Ex Em i) [] wx wm := by
  obtain ⟨v, wx2, wm2, e1, e2, e3⟩ := k_letter (v := (xs (i + 1))) h
  refine lj_aload C 2 dL_law_1170 rfl rfl ?_
  refine lj_arg C (k := 1) (by omega) dL_law_1171 dL_law_1172 dL_law_1173 rfl dL_law_1174 dL_law_1175 ?_
  refine lj_callX C [.int (xs (i + 1))] [] (c_X9_letter C.2.2.2.2.2.1 (xs (i + 1)) _) e1 rfl cb_L_158 im_X9_letter se_X9_letter rfl (by decide) (by decide) rfl (Nat.le_of_ble_eq_true rfl) dL_law_1176 rfl ?_
  refine lj_aload C 1 dL_law_1179 rfl rfl ?_
  refine lj_arg C (k := 1) (by omega) dL_law_1180 dL_law_1181 dL_law_1182 rfl dL_law_1183 dL_law_1184 ?_
  refine lj_callM C [.int (xs (i + 1))] [.int v] (c_X10_letter C.2.2.2.2.2.2.1 (xs (i + 1)) _) e2 rfl cb_L_161 im_X10_letter se_X10_letter rfl (by decide) (by decide) rfl (Nat.le_of_ble_eq_true rfl) dL_law_1185 rfl ?_
  exact lj_ieq C dL_law_1188 rfl (kk _ _ e3)
theorem lc_33 (C : LCx p s m meth c b L xs Ex Em kc ks) {i : Nat} (hi : i + 7 ≤ L) (h : Rl (En Ex) wx wm) (kk : ∀ wx2 wm2, Rl (En Ex) wx2 wm2 → LJ p e s m below meth c b Ex Em kc ks 1233 (lvL b Ex Em i) [] wx2 wm2) : LJ p e s m below meth c b Ex Em kc ks 1193 (lvL b Ex Em i) [] wx wm := by
  obtain ⟨v, wx2, wm2, e1, e2, e3⟩ := k_read  h
  refine lj_aload C 2 dL_law_1193 rfl rfl ?_
  refine lj_callX C [] [] (c_X9_read C.2.2.2.2.2.1  _) e1 rfl cb_L_162 im_X9_read se_X9_read rfl (by decide) (by decide) rfl (Nat.le_of_ble_eq_true rfl) dL_law_1194 rfl ?_
  refine lj_aload C 1 dL_law_1197 rfl rfl ?_
  refine lj_callM C [] [.int v] (c_X10_read C.2.2.2.2.2.2.1  _) e2 rfl cb_L_165 im_X10_read se_X10_read rfl (by decide) (by decide) rfl (Nat.le_of_ble_eq_true rfl) dL_law_1198 rfl ?_
  exact lj_ieq C dL_law_1201 rfl (kk _ _ e3)
theorem lc_34 (C : LCx p s m meth c b L xs Ex Em kc ks) {i : Nat} (hi : i + 7 ≤ L) (h : Rl (En Ex) wx wm) (kk : ∀ wx2 wm2, Rl (En Ex) wx2 wm2 → LJ p e s m below meth c b Ex Em kc ks 1233 (lvL b Ex Em i) [] wx2 wm2) : LJ p e s m below meth c b Ex Em kc ks 1206 (lvL b Ex Em i) [] wx wm := by
  obtain ⟨v, wx2, wm2, e1, e2, e3⟩ := k_finding  h
  refine lj_aload C 2 dL_law_1206 rfl rfl ?_
  refine lj_callX C [] [] (c_X9_finding C.2.2.2.2.2.1  _) e1 rfl cb_L_166 im_X9_finding se_X9_finding rfl (by decide) (by decide) rfl (Nat.le_of_ble_eq_true rfl) dL_law_1207 rfl ?_
  refine lj_aload C 1 dL_law_1210 rfl rfl ?_
  refine lj_callM C [] [.int v] (c_X10_finding C.2.2.2.2.2.2.1  _) e2 rfl cb_L_169 im_X10_finding se_X10_finding rfl (by decide) (by decide) rfl (Nat.le_of_ble_eq_true rfl) dL_law_1211 rfl ?_
  exact lj_ieq C dL_law_1214 rfl (kk _ _ e3)
theorem lc_35 (C : LCx p s m meth c b L xs Ex Em kc ks) {i : Nat} (hi : i + 7 ≤ L) (h : Rl (En Ex) wx wm) (kk : ∀ wx2 wm2, Rl (En Ex) wx2 wm2 → LJ p e s m below meth c b Ex Em kc ks 1233 (lvL b Ex Em i) [] wx2 wm2) : LJ p e s m below meth c b Ex Em kc ks 1219 (lvL b Ex Em i) [] wx wm := by
  obtain ⟨v, wx2, wm2, e1, e2, e3⟩ := k_digest  h
  refine lj_aload C 2 dL_law_1219 rfl rfl ?_
  refine lj_callX C [] [] (c_X9_digest C.2.2.2.2.2.1  _) e1 rfl cb_L_170 im_X9_digest se_X9_digest rfl (by decide) (by decide) rfl (Nat.le_of_ble_eq_true rfl) dL_law_1220 rfl ?_
  refine lj_aload C 1 dL_law_1223 rfl rfl ?_
  refine lj_callM C [] [.long v] (c_X10_digest C.2.2.2.2.2.2.1  _) e2 rfl cb_L_174 im_X10_digest se_X10_digest rfl (by decide) (by decide) rfl (Nat.le_of_ble_eq_true rfl) dL_law_1224 rfl ?_
  exact lj_leq C dL_law_1227 dL_law_1228 rfl (kk _ _ e3)
end CASES
