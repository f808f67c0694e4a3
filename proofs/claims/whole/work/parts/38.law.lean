/-! The law's loop. Written by wip/gen/law.py. -/
theorem KC_RL_103 : x_KC RL 103 M_La_scene 3 := ⟨(List.mem_append_right _ (List.mem_of_getElem? (i := 536) (by decide +kernel))), ⟨(List.mem_append_right _ (List.mem_of_getElem? (i := 538) (by decide +kernel))), by decide +kernel⟩, (List.mem_append_right _ (List.mem_of_getElem? (i := 0) (by decide +kernel))), ⟨by decide +kernel, by decide +kernel⟩, by decide +kernel, (List.mem_append_right _ (List.mem_of_getElem? (i := 537) (by decide +kernel)))⟩
theorem KC_RL_117 : x_KC RL 117 M_La_count 3 := ⟨(List.mem_append_right _ (List.mem_of_getElem? (i := 873) (by decide +kernel))), ⟨(List.mem_append_right _ (List.mem_of_getElem? (i := 875) (by decide +kernel))), by decide +kernel⟩, (List.mem_append_right _ (List.mem_of_getElem? (i := 0) (by decide +kernel))), ⟨by decide +kernel, by decide +kernel⟩, by decide +kernel, (List.mem_append_right _ (List.mem_of_getElem? (i := 874) (by decide +kernel)))⟩
theorem KC_RL_120 : x_KC RL 120 M_La_mark 3 := ⟨(List.mem_append_right _ (List.mem_of_getElem? (i := 897) (by decide +kernel))), ⟨(List.mem_append_right _ (List.mem_of_getElem? (i := 899) (by decide +kernel))), by decide +kernel⟩, (List.mem_append_right _ (List.mem_of_getElem? (i := 0) (by decide +kernel))), ⟨by decide +kernel, by decide +kernel⟩, by decide +kernel, (List.mem_append_right _ (List.mem_of_getElem? (i := 898) (by decide +kernel)))⟩
theorem KC_RL_123 : x_KC RL 123 M_La_inches 4 := ⟨(List.mem_append_right _ (List.mem_of_getElem? (i := 909) (by decide +kernel))), ⟨(List.mem_append_right _ (List.mem_of_getElem? (i := 911) (by decide +kernel))), by decide +kernel⟩, (List.mem_append_right _ (List.mem_of_getElem? (i := 0) (by decide +kernel))), ⟨by decide +kernel, by decide +kernel⟩, by decide +kernel, (List.mem_append_right _ (List.mem_of_getElem? (i := 910) (by decide +kernel)))⟩
theorem KC_RL_127 : x_KC RL 127 M_La_turn 3 := ⟨(List.mem_append_right _ (List.mem_of_getElem? (i := 921) (by decide +kernel))), ⟨(List.mem_append_right _ (List.mem_of_getElem? (i := 923) (by decide +kernel))), by decide +kernel⟩, (List.mem_append_right _ (List.mem_of_getElem? (i := 0) (by decide +kernel))), ⟨by decide +kernel, by decide +kernel⟩, by decide +kernel, (List.mem_append_right _ (List.mem_of_getElem? (i := 922) (by decide +kernel)))⟩
theorem KC_RL_130 : x_KC RL 130 M_La_tenth 4 := ⟨(List.mem_append_right _ (List.mem_of_getElem? (i := 929) (by decide +kernel))), ⟨(List.mem_append_right _ (List.mem_of_getElem? (i := 931) (by decide +kernel))), by decide +kernel⟩, (List.mem_append_right _ (List.mem_of_getElem? (i := 0) (by decide +kernel))), ⟨by decide +kernel, by decide +kernel⟩, by decide +kernel, (List.mem_append_right _ (List.mem_of_getElem? (i := 930) (by decide +kernel)))⟩
theorem KC_RL_133 : x_KC RL 133 M_La_all 3 := ⟨(List.mem_append_right _ (List.mem_of_getElem? (i := 948) (by decide +kernel))), ⟨(List.mem_append_right _ (List.mem_of_getElem? (i := 950) (by decide +kernel))), by decide +kernel⟩, (List.mem_append_right _ (List.mem_of_getElem? (i := 0) (by decide +kernel))), ⟨by decide +kernel, by decide +kernel⟩, by decide +kernel, (List.mem_append_right _ (List.mem_of_getElem? (i := 949) (by decide +kernel)))⟩
theorem KC_RL_161 : x_KC RL 161 M_La_chalk 4 := ⟨(List.mem_append_right _ (List.mem_of_getElem? (i := 981) (by decide +kernel))), ⟨(List.mem_append_right _ (List.mem_of_getElem? (i := 983) (by decide +kernel))), by decide +kernel⟩, (List.mem_append_right _ (List.mem_of_getElem? (i := 0) (by decide +kernel))), ⟨by decide +kernel, by decide +kernel⟩, by decide +kernel, (List.mem_append_right _ (List.mem_of_getElem? (i := 982) (by decide +kernel)))⟩
theorem KC_RL_168 : x_KC RL 168 M_La_best 3 := ⟨(List.mem_append_right _ (List.mem_of_getElem? (i := 989) (by decide +kernel))), ⟨(List.mem_append_right _ (List.mem_of_getElem? (i := 991) (by decide +kernel))), by decide +kernel⟩, (List.mem_append_right _ (List.mem_of_getElem? (i := 0) (by decide +kernel))), ⟨by decide +kernel, by decide +kernel⟩, by decide +kernel, (List.mem_append_right _ (List.mem_of_getElem? (i := 990) (by decide +kernel)))⟩
theorem KC_RL_171 : x_KC RL 171 M_La_foretell 3 := ⟨(List.mem_append_right _ (List.mem_of_getElem? (i := 997) (by decide +kernel))), ⟨(List.mem_append_right _ (List.mem_of_getElem? (i := 999) (by decide +kernel))), by decide +kernel⟩, (List.mem_append_right _ (List.mem_of_getElem? (i := 0) (by decide +kernel))), ⟨by decide +kernel, by decide +kernel⟩, by decide +kernel, (List.mem_append_right _ (List.mem_of_getElem? (i := 998) (by decide +kernel)))⟩
theorem KC_RL_174 : x_KC RL 174 M_La_holes 3 := ⟨(List.mem_append_right _ (List.mem_of_getElem? (i := 1008) (by decide +kernel))), ⟨(List.mem_append_right _ (List.mem_of_getElem? (i := 1010) (by decide +kernel))), by decide +kernel⟩, (List.mem_append_right _ (List.mem_of_getElem? (i := 0) (by decide +kernel))), ⟨by decide +kernel, by decide +kernel⟩, by decide +kernel, (List.mem_append_right _ (List.mem_of_getElem? (i := 1009) (by decide +kernel)))⟩
theorem KC_RL_177 : x_KC RL 177 M_La_light 4 := ⟨(List.mem_append_right _ (List.mem_of_getElem? (i := 1016) (by decide +kernel))), ⟨(List.mem_append_right _ (List.mem_of_getElem? (i := 1018) (by decide +kernel))), by decide +kernel⟩, (List.mem_append_right _ (List.mem_of_getElem? (i := 0) (by decide +kernel))), ⟨by decide +kernel, by decide +kernel⟩, by decide +kernel, (List.mem_append_right _ (List.mem_of_getElem? (i := 1017) (by decide +kernel)))⟩
theorem KC_RL_184 : x_KC RL 184 M_La_marks 3 := ⟨(List.mem_append_right _ (List.mem_of_getElem? (i := 1024) (by decide +kernel))), ⟨(List.mem_append_right _ (List.mem_of_getElem? (i := 1026) (by decide +kernel))), by decide +kernel⟩, (List.mem_append_right _ (List.mem_of_getElem? (i := 0) (by decide +kernel))), ⟨by decide +kernel, by decide +kernel⟩, by decide +kernel, (List.mem_append_right _ (List.mem_of_getElem? (i := 1025) (by decide +kernel)))⟩
theorem KC_RL_187 : x_KC RL 187 M_La_kept 3 := ⟨(List.mem_append_right _ (List.mem_of_getElem? (i := 1061) (by decide +kernel))), ⟨(List.mem_append_right _ (List.mem_of_getElem? (i := 1063) (by decide +kernel))), by decide +kernel⟩, (List.mem_append_right _ (List.mem_of_getElem? (i := 0) (by decide +kernel))), ⟨by decide +kernel, by decide +kernel⟩, by decide +kernel, (List.mem_append_right _ (List.mem_of_getElem? (i := 1062) (by decide +kernel)))⟩
theorem KC_RL_190 : x_KC RL 190 M_La_takes 7 := ⟨(List.mem_append_right _ (List.mem_of_getElem? (i := 1069) (by decide +kernel))), ⟨(List.mem_append_right _ (List.mem_of_getElem? (i := 1071) (by decide +kernel))), by decide +kernel⟩, (List.mem_append_right _ (List.mem_of_getElem? (i := 0) (by decide +kernel))), ⟨by decide +kernel, by decide +kernel⟩, by decide +kernel, (List.mem_append_right _ (List.mem_of_getElem? (i := 1070) (by decide +kernel)))⟩
theorem KC_RL_194 : x_KC RL 194 M_La_see 4 := ⟨(List.mem_append_right _ (List.mem_of_getElem? (i := 1084) (by decide +kernel))), ⟨(List.mem_append_right _ (List.mem_of_getElem? (i := 1086) (by decide +kernel))), by decide +kernel⟩, (List.mem_append_right _ (List.mem_of_getElem? (i := 0) (by decide +kernel))), ⟨by decide +kernel, by decide +kernel⟩, by decide +kernel, (List.mem_append_right _ (List.mem_of_getElem? (i := 1085) (by decide +kernel)))⟩
theorem KC_RL_198 : x_KC RL 198 M_La_fits 3 := ⟨(List.mem_append_right _ (List.mem_of_getElem? (i := 1096) (by decide +kernel))), ⟨(List.mem_append_right _ (List.mem_of_getElem? (i := 1098) (by decide +kernel))), by decide +kernel⟩, (List.mem_append_right _ (List.mem_of_getElem? (i := 0) (by decide +kernel))), ⟨by decide +kernel, by decide +kernel⟩, by decide +kernel, (List.mem_append_right _ (List.mem_of_getElem? (i := 1097) (by decide +kernel)))⟩
theorem KC_RL_205 : x_KC RL 205 M_La_next 4 := ⟨(List.mem_append_right _ (List.mem_of_getElem? (i := 1113) (by decide +kernel))), ⟨(List.mem_append_right _ (List.mem_of_getElem? (i := 1115) (by decide +kernel))), by decide +kernel⟩, (List.mem_append_right _ (List.mem_of_getElem? (i := 0) (by decide +kernel))), ⟨by decide +kernel, by decide +kernel⟩, by decide +kernel, (List.mem_append_right _ (List.mem_of_getElem? (i := 1114) (by decide +kernel)))⟩
theorem KC_RL_208 : x_KC RL 208 M_La_middle 3 := ⟨(List.mem_append_right _ (List.mem_of_getElem? (i := 1131) (by decide +kernel))), ⟨(List.mem_append_right _ (List.mem_of_getElem? (i := 1133) (by decide +kernel))), by decide +kernel⟩, (List.mem_append_right _ (List.mem_of_getElem? (i := 0) (by decide +kernel))), ⟨by decide +kernel, by decide +kernel⟩, by decide +kernel, (List.mem_append_right _ (List.mem_of_getElem? (i := 1132) (by decide +kernel)))⟩
theorem KC_RL_215 : x_KC RL 215 M_La_runs 4 := ⟨(List.mem_append_right _ (List.mem_of_getElem? (i := 1149) (by decide +kernel))), ⟨(List.mem_append_right _ (List.mem_of_getElem? (i := 1151) (by decide +kernel))), by decide +kernel⟩, (List.mem_append_right _ (List.mem_of_getElem? (i := 0) (by decide +kernel))), ⟨by decide +kernel, by decide +kernel⟩, by decide +kernel, (List.mem_append_right _ (List.mem_of_getElem? (i := 1150) (by decide +kernel)))⟩
theorem KC_RL_230 : x_KC RL 230 M_La_shift 3 := ⟨(List.mem_append_right _ (List.mem_of_getElem? (i := 1162) (by decide +kernel))), ⟨(List.mem_append_right _ (List.mem_of_getElem? (i := 1164) (by decide +kernel))), by decide +kernel⟩, (List.mem_append_right _ (List.mem_of_getElem? (i := 0) (by decide +kernel))), ⟨by decide +kernel, by decide +kernel⟩, by decide +kernel, (List.mem_append_right _ (List.mem_of_getElem? (i := 1163) (by decide +kernel)))⟩
theorem KC_RL_233 : x_KC RL 233 M_La_slip 3 := ⟨(List.mem_append_right _ (List.mem_of_getElem? (i := 1170) (by decide +kernel))), ⟨(List.mem_append_right _ (List.mem_of_getElem? (i := 1172) (by decide +kernel))), by decide +kernel⟩, (List.mem_append_right _ (List.mem_of_getElem? (i := 0) (by decide +kernel))), ⟨by decide +kernel, by decide +kernel⟩, by decide +kernel, (List.mem_append_right _ (List.mem_of_getElem? (i := 1171) (by decide +kernel)))⟩
theorem KC_RL_236 : x_KC RL 236 M_La_lags 3 := ⟨(List.mem_append_right _ (List.mem_of_getElem? (i := 1178) (by decide +kernel))), ⟨(List.mem_append_right _ (List.mem_of_getElem? (i := 1180) (by decide +kernel))), by decide +kernel⟩, (List.mem_append_right _ (List.mem_of_getElem? (i := 0) (by decide +kernel))), ⟨by decide +kernel, by decide +kernel⟩, by decide +kernel, (List.mem_append_right _ (List.mem_of_getElem? (i := 1179) (by decide +kernel)))⟩
theorem KC_RL_239 : x_KC RL 239 M_La_depth 4 := ⟨(List.mem_append_right _ (List.mem_of_getElem? (i := 1186) (by decide +kernel))), ⟨(List.mem_append_right _ (List.mem_of_getElem? (i := 1188) (by decide +kernel))), by decide +kernel⟩, (List.mem_append_right _ (List.mem_of_getElem? (i := 0) (by decide +kernel))), ⟨by decide +kernel, by decide +kernel⟩, by decide +kernel, (List.mem_append_right _ (List.mem_of_getElem? (i := 1187) (by decide +kernel)))⟩
theorem KC_RL_242 : x_KC RL 242 M_La_shots 3 := ⟨(List.mem_append_right _ (List.mem_of_getElem? (i := 1195) (by decide +kernel))), ⟨(List.mem_append_right _ (List.mem_of_getElem? (i := 1197) (by decide +kernel))), by decide +kernel⟩, (List.mem_append_right _ (List.mem_of_getElem? (i := 0) (by decide +kernel))), ⟨by decide +kernel, by decide +kernel⟩, by decide +kernel, (List.mem_append_right _ (List.mem_of_getElem? (i := 1196) (by decide +kernel)))⟩
theorem KC_RL_245 : x_KC RL 245 M_La_quickest 3 := ⟨(List.mem_append_right _ (List.mem_of_getElem? (i := 1202) (by decide +kernel))), ⟨(List.mem_append_right _ (List.mem_of_getElem? (i := 1204) (by decide +kernel))), by decide +kernel⟩, (List.mem_append_right _ (List.mem_of_getElem? (i := 0) (by decide +kernel))), ⟨by decide +kernel, by decide +kernel⟩, by decide +kernel, (List.mem_append_right _ (List.mem_of_getElem? (i := 1203) (by decide +kernel)))⟩
theorem K_RL_102 : x_KV RL 102 M_Mo_feed 5 := ⟨⟨(List.mem_append_right _ (List.mem_of_getElem? (i := 1479) (by decide +kernel))), (List.mem_append_right _ (List.mem_of_getElem? (i := 1482) (by decide +kernel))), (List.mem_append_right _ (List.mem_of_getElem? (i := 9) (by decide +kernel))), ⟨by decide +kernel, by decide +kernel⟩, by decide +kernel⟩, (List.mem_append_right _ (List.mem_of_getElem? (i := 1480) (by decide +kernel))), (List.mem_append_right _ (List.mem_of_getElem? (i := 1481) (by decide +kernel)))⟩
theorem K_RL_108 : x_KV RL 108 M_Mo_scene 1 := ⟨⟨(List.mem_append_right _ (List.mem_of_getElem? (i := 1487) (by decide +kernel))), (List.mem_append_right _ (List.mem_of_getElem? (i := 1490) (by decide +kernel))), (List.mem_append_right _ (List.mem_of_getElem? (i := 9) (by decide +kernel))), ⟨by decide +kernel, by decide +kernel⟩, by decide +kernel⟩, (List.mem_append_right _ (List.mem_of_getElem? (i := 1488) (by decide +kernel))), (List.mem_append_right _ (List.mem_of_getElem? (i := 1489) (by decide +kernel)))⟩
theorem K_RL_109 : x_KV RL 109 M_Mo_thrown 0 := ⟨⟨(List.mem_append_right _ (List.mem_of_getElem? (i := 1475) (by decide +kernel))), (List.mem_append_right _ (List.mem_of_getElem? (i := 1478) (by decide +kernel))), (List.mem_append_right _ (List.mem_of_getElem? (i := 9) (by decide +kernel))), ⟨by decide +kernel, by decide +kernel⟩, by decide +kernel⟩, (List.mem_append_right _ (List.mem_of_getElem? (i := 1476) (by decide +kernel))), (List.mem_append_right _ (List.mem_of_getElem? (i := 1477) (by decide +kernel)))⟩
theorem K_RL_113 : x_KV RL 113 M_RH_fault 0 := ⟨⟨(List.mem_append_right _ (List.mem_of_getElem? (i := 359) (by decide +kernel))), (List.mem_append_right _ (List.mem_of_getElem? (i := 362) (by decide +kernel))), (List.mem_append_right _ (List.mem_of_getElem? (i := 1) (by decide +kernel))), ⟨by decide +kernel, by decide +kernel⟩, by decide +kernel⟩, (List.mem_append_right _ (List.mem_of_getElem? (i := 360) (by decide +kernel))), (List.mem_append_right _ (List.mem_of_getElem? (i := 361) (by decide +kernel)))⟩
theorem K_RL_116 : x_KV RL 116 M_Mo_fault 0 := ⟨⟨(List.mem_append_right _ (List.mem_of_getElem? (i := 1618) (by decide +kernel))), (List.mem_append_right _ (List.mem_of_getElem? (i := 1621) (by decide +kernel))), (List.mem_append_right _ (List.mem_of_getElem? (i := 9) (by decide +kernel))), ⟨by decide +kernel, by decide +kernel⟩, by decide +kernel⟩, (List.mem_append_right _ (List.mem_of_getElem? (i := 1619) (by decide +kernel))), (List.mem_append_right _ (List.mem_of_getElem? (i := 1620) (by decide +kernel)))⟩
theorem K_RL_119 : x_KV RL 119 M_Mo_count 1 := ⟨⟨(List.mem_append_right _ (List.mem_of_getElem? (i := 1626) (by decide +kernel))), (List.mem_append_right _ (List.mem_of_getElem? (i := 1629) (by decide +kernel))), (List.mem_append_right _ (List.mem_of_getElem? (i := 9) (by decide +kernel))), ⟨by decide +kernel, by decide +kernel⟩, by decide +kernel⟩, (List.mem_append_right _ (List.mem_of_getElem? (i := 1627) (by decide +kernel))), (List.mem_append_right _ (List.mem_of_getElem? (i := 1628) (by decide +kernel)))⟩
theorem K_RL_122 : x_KV RL 122 M_Mo_mark 1 := ⟨⟨(List.mem_append_right _ (List.mem_of_getElem? (i := 1637) (by decide +kernel))), (List.mem_append_right _ (List.mem_of_getElem? (i := 1640) (by decide +kernel))), (List.mem_append_right _ (List.mem_of_getElem? (i := 9) (by decide +kernel))), ⟨by decide +kernel, by decide +kernel⟩, by decide +kernel⟩, (List.mem_append_right _ (List.mem_of_getElem? (i := 1638) (by decide +kernel))), (List.mem_append_right _ (List.mem_of_getElem? (i := 1639) (by decide +kernel)))⟩
theorem K_RL_126 : x_KV RL 126 M_Mo_inches 2 := ⟨⟨(List.mem_append_right _ (List.mem_of_getElem? (i := 1641) (by decide +kernel))), (List.mem_append_right _ (List.mem_of_getElem? (i := 1644) (by decide +kernel))), (List.mem_append_right _ (List.mem_of_getElem? (i := 9) (by decide +kernel))), ⟨by decide +kernel, by decide +kernel⟩, by decide +kernel⟩, (List.mem_append_right _ (List.mem_of_getElem? (i := 1642) (by decide +kernel))), (List.mem_append_right _ (List.mem_of_getElem? (i := 1643) (by decide +kernel)))⟩
theorem K_RL_129 : x_KV RL 129 M_Mo_turn 1 := ⟨⟨(List.mem_append_right _ (List.mem_of_getElem? (i := 1661) (by decide +kernel))), (List.mem_append_right _ (List.mem_of_getElem? (i := 1664) (by decide +kernel))), (List.mem_append_right _ (List.mem_of_getElem? (i := 9) (by decide +kernel))), ⟨by decide +kernel, by decide +kernel⟩, by decide +kernel⟩, (List.mem_append_right _ (List.mem_of_getElem? (i := 1662) (by decide +kernel))), (List.mem_append_right _ (List.mem_of_getElem? (i := 1663) (by decide +kernel)))⟩
theorem K_RL_132 : x_KV RL 132 M_Mo_tenth 2 := ⟨⟨(List.mem_append_right _ (List.mem_of_getElem? (i := 1679) (by decide +kernel))), (List.mem_append_right _ (List.mem_of_getElem? (i := 1682) (by decide +kernel))), (List.mem_append_right _ (List.mem_of_getElem? (i := 9) (by decide +kernel))), ⟨by decide +kernel, by decide +kernel⟩, by decide +kernel⟩, (List.mem_append_right _ (List.mem_of_getElem? (i := 1680) (by decide +kernel))), (List.mem_append_right _ (List.mem_of_getElem? (i := 1681) (by decide +kernel)))⟩
theorem K_RL_135 : x_KV RL 135 M_Mo_all 1 := ⟨⟨(List.mem_append_right _ (List.mem_of_getElem? (i := 1722) (by decide +kernel))), (List.mem_append_right _ (List.mem_of_getElem? (i := 1725) (by decide +kernel))), (List.mem_append_right _ (List.mem_of_getElem? (i := 9) (by decide +kernel))), ⟨by decide +kernel, by decide +kernel⟩, by decide +kernel⟩, (List.mem_append_right _ (List.mem_of_getElem? (i := 1723) (by decide +kernel))), (List.mem_append_right _ (List.mem_of_getElem? (i := 1724) (by decide +kernel)))⟩
theorem K_RL_136 : x_KV RL 136 M_RH_hole 1 := ⟨⟨(List.mem_append_right _ (List.mem_of_getElem? (i := 363) (by decide +kernel))), (List.mem_append_right _ (List.mem_of_getElem? (i := 366) (by decide +kernel))), (List.mem_append_right _ (List.mem_of_getElem? (i := 1) (by decide +kernel))), ⟨by decide +kernel, by decide +kernel⟩, by decide +kernel⟩, (List.mem_append_right _ (List.mem_of_getElem? (i := 364) (by decide +kernel))), (List.mem_append_right _ (List.mem_of_getElem? (i := 365) (by decide +kernel)))⟩
theorem K_RL_139 : x_KV RL 139 M_Mo_hole 1 := ⟨⟨(List.mem_append_right _ (List.mem_of_getElem? (i := 1746) (by decide +kernel))), (List.mem_append_right _ (List.mem_of_getElem? (i := 1749) (by decide +kernel))), (List.mem_append_right _ (List.mem_of_getElem? (i := 9) (by decide +kernel))), ⟨by decide +kernel, by decide +kernel⟩, by decide +kernel⟩, (List.mem_append_right _ (List.mem_of_getElem? (i := 1747) (by decide +kernel))), (List.mem_append_right _ (List.mem_of_getElem? (i := 1748) (by decide +kernel)))⟩
theorem K_RL_140 : x_KV RL 140 M_RH_lag 1 := ⟨⟨(List.mem_append_right _ (List.mem_of_getElem? (i := 379) (by decide +kernel))), (List.mem_append_right _ (List.mem_of_getElem? (i := 382) (by decide +kernel))), (List.mem_append_right _ (List.mem_of_getElem? (i := 1) (by decide +kernel))), ⟨by decide +kernel, by decide +kernel⟩, by decide +kernel⟩, (List.mem_append_right _ (List.mem_of_getElem? (i := 380) (by decide +kernel))), (List.mem_append_right _ (List.mem_of_getElem? (i := 381) (by decide +kernel)))⟩
theorem K_RL_143 : x_KV RL 143 M_Mo_lag 1 := ⟨⟨(List.mem_append_right _ (List.mem_of_getElem? (i := 1758) (by decide +kernel))), (List.mem_append_right _ (List.mem_of_getElem? (i := 1761) (by decide +kernel))), (List.mem_append_right _ (List.mem_of_getElem? (i := 9) (by decide +kernel))), ⟨by decide +kernel, by decide +kernel⟩, by decide +kernel⟩, (List.mem_append_right _ (List.mem_of_getElem? (i := 1759) (by decide +kernel))), (List.mem_append_right _ (List.mem_of_getElem? (i := 1760) (by decide +kernel)))⟩
theorem K_RL_144 : x_KV RL 144 M_RH_wrist 1 := ⟨⟨(List.mem_append_right _ (List.mem_of_getElem? (i := 383) (by decide +kernel))), (List.mem_append_right _ (List.mem_of_getElem? (i := 386) (by decide +kernel))), (List.mem_append_right _ (List.mem_of_getElem? (i := 1) (by decide +kernel))), ⟨by decide +kernel, by decide +kernel⟩, by decide +kernel⟩, (List.mem_append_right _ (List.mem_of_getElem? (i := 384) (by decide +kernel))), (List.mem_append_right _ (List.mem_of_getElem? (i := 385) (by decide +kernel)))⟩
theorem K_RL_147 : x_KV RL 147 M_Mo_wrist 1 := ⟨⟨(List.mem_append_right _ (List.mem_of_getElem? (i := 1762) (by decide +kernel))), (List.mem_append_right _ (List.mem_of_getElem? (i := 1765) (by decide +kernel))), (List.mem_append_right _ (List.mem_of_getElem? (i := 9) (by decide +kernel))), ⟨by decide +kernel, by decide +kernel⟩, by decide +kernel⟩, (List.mem_append_right _ (List.mem_of_getElem? (i := 1763) (by decide +kernel))), (List.mem_append_right _ (List.mem_of_getElem? (i := 1764) (by decide +kernel)))⟩
theorem K_RL_148 : x_KV RL 148 M_RH_eye 1 := ⟨⟨(List.mem_append_right _ (List.mem_of_getElem? (i := 387) (by decide +kernel))), (List.mem_append_right _ (List.mem_of_getElem? (i := 390) (by decide +kernel))), (List.mem_append_right _ (List.mem_of_getElem? (i := 1) (by decide +kernel))), ⟨by decide +kernel, by decide +kernel⟩, by decide +kernel⟩, (List.mem_append_right _ (List.mem_of_getElem? (i := 388) (by decide +kernel))), (List.mem_append_right _ (List.mem_of_getElem? (i := 389) (by decide +kernel)))⟩
theorem K_RL_151 : x_KV RL 151 M_Mo_eye 1 := ⟨⟨(List.mem_append_right _ (List.mem_of_getElem? (i := 1766) (by decide +kernel))), (List.mem_append_right _ (List.mem_of_getElem? (i := 1769) (by decide +kernel))), (List.mem_append_right _ (List.mem_of_getElem? (i := 9) (by decide +kernel))), ⟨by decide +kernel, by decide +kernel⟩, by decide +kernel⟩, (List.mem_append_right _ (List.mem_of_getElem? (i := 1767) (by decide +kernel))), (List.mem_append_right _ (List.mem_of_getElem? (i := 1768) (by decide +kernel)))⟩
theorem K_RL_152 : x_KV RL 152 M_RH_hand 1 := ⟨⟨(List.mem_append_right _ (List.mem_of_getElem? (i := 391) (by decide +kernel))), (List.mem_append_right _ (List.mem_of_getElem? (i := 394) (by decide +kernel))), (List.mem_append_right _ (List.mem_of_getElem? (i := 1) (by decide +kernel))), ⟨by decide +kernel, by decide +kernel⟩, by decide +kernel⟩, (List.mem_append_right _ (List.mem_of_getElem? (i := 392) (by decide +kernel))), (List.mem_append_right _ (List.mem_of_getElem? (i := 393) (by decide +kernel)))⟩
theorem K_RL_156 : x_KV RL 156 M_Mo_hand 1 := ⟨⟨(List.mem_append_right _ (List.mem_of_getElem? (i := 1770) (by decide +kernel))), (List.mem_append_right _ (List.mem_of_getElem? (i := 1773) (by decide +kernel))), (List.mem_append_right _ (List.mem_of_getElem? (i := 9) (by decide +kernel))), ⟨by decide +kernel, by decide +kernel⟩, by decide +kernel⟩, (List.mem_append_right _ (List.mem_of_getElem? (i := 1771) (by decide +kernel))), (List.mem_append_right _ (List.mem_of_getElem? (i := 1772) (by decide +kernel)))⟩
theorem K_RL_157 : x_KV RL 157 M_RH_behind 1 := ⟨⟨(List.mem_append_right _ (List.mem_of_getElem? (i := 395) (by decide +kernel))), (List.mem_append_right _ (List.mem_of_getElem? (i := 398) (by decide +kernel))), (List.mem_append_right _ (List.mem_of_getElem? (i := 1) (by decide +kernel))), ⟨by decide +kernel, by decide +kernel⟩, by decide +kernel⟩, (List.mem_append_right _ (List.mem_of_getElem? (i := 396) (by decide +kernel))), (List.mem_append_right _ (List.mem_of_getElem? (i := 397) (by decide +kernel)))⟩
theorem K_RL_160 : x_KV RL 160 M_Mo_behind 1 := ⟨⟨(List.mem_append_right _ (List.mem_of_getElem? (i := 1774) (by decide +kernel))), (List.mem_append_right _ (List.mem_of_getElem? (i := 1777) (by decide +kernel))), (List.mem_append_right _ (List.mem_of_getElem? (i := 9) (by decide +kernel))), ⟨by decide +kernel, by decide +kernel⟩, by decide +kernel⟩, (List.mem_append_right _ (List.mem_of_getElem? (i := 1775) (by decide +kernel))), (List.mem_append_right _ (List.mem_of_getElem? (i := 1776) (by decide +kernel)))⟩
theorem K_RL_163 : x_KV RL 163 M_Mo_chalk 2 := ⟨⟨(List.mem_append_right _ (List.mem_of_getElem? (i := 1778) (by decide +kernel))), (List.mem_append_right _ (List.mem_of_getElem? (i := 1781) (by decide +kernel))), (List.mem_append_right _ (List.mem_of_getElem? (i := 9) (by decide +kernel))), ⟨by decide +kernel, by decide +kernel⟩, by decide +kernel⟩, (List.mem_append_right _ (List.mem_of_getElem? (i := 1779) (by decide +kernel))), (List.mem_append_right _ (List.mem_of_getElem? (i := 1780) (by decide +kernel)))⟩
theorem K_RL_164 : x_KV RL 164 M_RH_undo 0 := ⟨⟨(List.mem_append_right _ (List.mem_of_getElem? (i := 399) (by decide +kernel))), (List.mem_append_right _ (List.mem_of_getElem? (i := 402) (by decide +kernel))), (List.mem_append_right _ (List.mem_of_getElem? (i := 1) (by decide +kernel))), ⟨by decide +kernel, by decide +kernel⟩, by decide +kernel⟩, (List.mem_append_right _ (List.mem_of_getElem? (i := 400) (by decide +kernel))), (List.mem_append_right _ (List.mem_of_getElem? (i := 401) (by decide +kernel)))⟩
theorem K_RL_167 : x_KV RL 167 M_Mo_undo 0 := ⟨⟨(List.mem_append_right _ (List.mem_of_getElem? (i := 1622) (by decide +kernel))), (List.mem_append_right _ (List.mem_of_getElem? (i := 1625) (by decide +kernel))), (List.mem_append_right _ (List.mem_of_getElem? (i := 9) (by decide +kernel))), ⟨by decide +kernel, by decide +kernel⟩, by decide +kernel⟩, (List.mem_append_right _ (List.mem_of_getElem? (i := 1623) (by decide +kernel))), (List.mem_append_right _ (List.mem_of_getElem? (i := 1624) (by decide +kernel)))⟩
theorem K_RL_170 : x_KV RL 170 M_Mo_best 1 := ⟨⟨(List.mem_append_right _ (List.mem_of_getElem? (i := 1782) (by decide +kernel))), (List.mem_append_right _ (List.mem_of_getElem? (i := 1785) (by decide +kernel))), (List.mem_append_right _ (List.mem_of_getElem? (i := 9) (by decide +kernel))), ⟨by decide +kernel, by decide +kernel⟩, by decide +kernel⟩, (List.mem_append_right _ (List.mem_of_getElem? (i := 1783) (by decide +kernel))), (List.mem_append_right _ (List.mem_of_getElem? (i := 1784) (by decide +kernel)))⟩
theorem K_RL_173 : x_KV RL 173 M_Mo_foretell 1 := ⟨⟨(List.mem_append_right _ (List.mem_of_getElem? (i := 1790) (by decide +kernel))), (List.mem_append_right _ (List.mem_of_getElem? (i := 1793) (by decide +kernel))), (List.mem_append_right _ (List.mem_of_getElem? (i := 9) (by decide +kernel))), ⟨by decide +kernel, by decide +kernel⟩, by decide +kernel⟩, (List.mem_append_right _ (List.mem_of_getElem? (i := 1791) (by decide +kernel))), (List.mem_append_right _ (List.mem_of_getElem? (i := 1792) (by decide +kernel)))⟩
theorem K_RL_176 : x_KV RL 176 M_Mo_holes 1 := ⟨⟨(List.mem_append_right _ (List.mem_of_getElem? (i := 1846) (by decide +kernel))), (List.mem_append_right _ (List.mem_of_getElem? (i := 1849) (by decide +kernel))), (List.mem_append_right _ (List.mem_of_getElem? (i := 9) (by decide +kernel))), ⟨by decide +kernel, by decide +kernel⟩, by decide +kernel⟩, (List.mem_append_right _ (List.mem_of_getElem? (i := 1847) (by decide +kernel))), (List.mem_append_right _ (List.mem_of_getElem? (i := 1848) (by decide +kernel)))⟩
theorem K_RL_179 : x_KV RL 179 M_Mo_light 2 := ⟨⟨(List.mem_append_right _ (List.mem_of_getElem? (i := 1850) (by decide +kernel))), (List.mem_append_right _ (List.mem_of_getElem? (i := 1853) (by decide +kernel))), (List.mem_append_right _ (List.mem_of_getElem? (i := 9) (by decide +kernel))), ⟨by decide +kernel, by decide +kernel⟩, by decide +kernel⟩, (List.mem_append_right _ (List.mem_of_getElem? (i := 1851) (by decide +kernel))), (List.mem_append_right _ (List.mem_of_getElem? (i := 1852) (by decide +kernel)))⟩
theorem K_RL_180 : x_KV RL 180 M_RH_both 0 := ⟨⟨(List.mem_append_right _ (List.mem_of_getElem? (i := 407) (by decide +kernel))), (List.mem_append_right _ (List.mem_of_getElem? (i := 410) (by decide +kernel))), (List.mem_append_right _ (List.mem_of_getElem? (i := 1) (by decide +kernel))), ⟨by decide +kernel, by decide +kernel⟩, by decide +kernel⟩, (List.mem_append_right _ (List.mem_of_getElem? (i := 408) (by decide +kernel))), (List.mem_append_right _ (List.mem_of_getElem? (i := 409) (by decide +kernel)))⟩
theorem K_RL_183 : x_KV RL 183 M_Mo_both 0 := ⟨⟨(List.mem_append_right _ (List.mem_of_getElem? (i := 1854) (by decide +kernel))), (List.mem_append_right _ (List.mem_of_getElem? (i := 1857) (by decide +kernel))), (List.mem_append_right _ (List.mem_of_getElem? (i := 9) (by decide +kernel))), ⟨by decide +kernel, by decide +kernel⟩, by decide +kernel⟩, (List.mem_append_right _ (List.mem_of_getElem? (i := 1855) (by decide +kernel))), (List.mem_append_right _ (List.mem_of_getElem? (i := 1856) (by decide +kernel)))⟩
theorem K_RL_186 : x_KV RL 186 M_Mo_marks 1 := ⟨⟨(List.mem_append_right _ (List.mem_of_getElem? (i := 1858) (by decide +kernel))), (List.mem_append_right _ (List.mem_of_getElem? (i := 1861) (by decide +kernel))), (List.mem_append_right _ (List.mem_of_getElem? (i := 9) (by decide +kernel))), ⟨by decide +kernel, by decide +kernel⟩, by decide +kernel⟩, (List.mem_append_right _ (List.mem_of_getElem? (i := 1859) (by decide +kernel))), (List.mem_append_right _ (List.mem_of_getElem? (i := 1860) (by decide +kernel)))⟩
theorem K_RL_189 : x_KV RL 189 M_Mo_kept 1 := ⟨⟨(List.mem_append_right _ (List.mem_of_getElem? (i := 1870) (by decide +kernel))), (List.mem_append_right _ (List.mem_of_getElem? (i := 1873) (by decide +kernel))), (List.mem_append_right _ (List.mem_of_getElem? (i := 9) (by decide +kernel))), ⟨by decide +kernel, by decide +kernel⟩, by decide +kernel⟩, (List.mem_append_right _ (List.mem_of_getElem? (i := 1871) (by decide +kernel))), (List.mem_append_right _ (List.mem_of_getElem? (i := 1872) (by decide +kernel)))⟩
theorem K_RL_193 : x_KV RL 193 M_Mo_takes 5 := ⟨⟨(List.mem_append_right _ (List.mem_of_getElem? (i := 1874) (by decide +kernel))), (List.mem_append_right _ (List.mem_of_getElem? (i := 1877) (by decide +kernel))), (List.mem_append_right _ (List.mem_of_getElem? (i := 9) (by decide +kernel))), ⟨by decide +kernel, by decide +kernel⟩, by decide +kernel⟩, (List.mem_append_right _ (List.mem_of_getElem? (i := 1875) (by decide +kernel))), (List.mem_append_right _ (List.mem_of_getElem? (i := 1876) (by decide +kernel)))⟩
theorem K_RL_197 : x_KV RL 197 M_Mo_see 2 := ⟨⟨(List.mem_append_right _ (List.mem_of_getElem? (i := 1883) (by decide +kernel))), (List.mem_append_right _ (List.mem_of_getElem? (i := 1886) (by decide +kernel))), (List.mem_append_right _ (List.mem_of_getElem? (i := 9) (by decide +kernel))), ⟨by decide +kernel, by decide +kernel⟩, by decide +kernel⟩, (List.mem_append_right _ (List.mem_of_getElem? (i := 1884) (by decide +kernel))), (List.mem_append_right _ (List.mem_of_getElem? (i := 1885) (by decide +kernel)))⟩
theorem K_RL_200 : x_KV RL 200 M_Mo_fits 1 := ⟨⟨(List.mem_append_right _ (List.mem_of_getElem? (i := 1887) (by decide +kernel))), (List.mem_append_right _ (List.mem_of_getElem? (i := 1890) (by decide +kernel))), (List.mem_append_right _ (List.mem_of_getElem? (i := 9) (by decide +kernel))), ⟨by decide +kernel, by decide +kernel⟩, by decide +kernel⟩, (List.mem_append_right _ (List.mem_of_getElem? (i := 1888) (by decide +kernel))), (List.mem_append_right _ (List.mem_of_getElem? (i := 1889) (by decide +kernel)))⟩
theorem K_RL_201 : x_KV RL 201 M_RH_book 1 := ⟨⟨(List.mem_append_right _ (List.mem_of_getElem? (i := 429) (by decide +kernel))), (List.mem_append_right _ (List.mem_of_getElem? (i := 432) (by decide +kernel))), (List.mem_append_right _ (List.mem_of_getElem? (i := 1) (by decide +kernel))), ⟨by decide +kernel, by decide +kernel⟩, by decide +kernel⟩, (List.mem_append_right _ (List.mem_of_getElem? (i := 430) (by decide +kernel))), (List.mem_append_right _ (List.mem_of_getElem? (i := 431) (by decide +kernel)))⟩
theorem K_RL_204 : x_KV RL 204 M_Mo_book 1 := ⟨⟨(List.mem_append_right _ (List.mem_of_getElem? (i := 1891) (by decide +kernel))), (List.mem_append_right _ (List.mem_of_getElem? (i := 1894) (by decide +kernel))), (List.mem_append_right _ (List.mem_of_getElem? (i := 9) (by decide +kernel))), ⟨by decide +kernel, by decide +kernel⟩, by decide +kernel⟩, (List.mem_append_right _ (List.mem_of_getElem? (i := 1892) (by decide +kernel))), (List.mem_append_right _ (List.mem_of_getElem? (i := 1893) (by decide +kernel)))⟩
theorem K_RL_207 : x_KV RL 207 M_Mo_next 2 := ⟨⟨(List.mem_append_right _ (List.mem_of_getElem? (i := 1895) (by decide +kernel))), (List.mem_append_right _ (List.mem_of_getElem? (i := 1898) (by decide +kernel))), (List.mem_append_right _ (List.mem_of_getElem? (i := 9) (by decide +kernel))), ⟨by decide +kernel, by decide +kernel⟩, by decide +kernel⟩, (List.mem_append_right _ (List.mem_of_getElem? (i := 1896) (by decide +kernel))), (List.mem_append_right _ (List.mem_of_getElem? (i := 1897) (by decide +kernel)))⟩
theorem K_RL_210 : x_KV RL 210 M_Mo_middle 1 := ⟨⟨(List.mem_append_right _ (List.mem_of_getElem? (i := 1902) (by decide +kernel))), (List.mem_append_right _ (List.mem_of_getElem? (i := 1905) (by decide +kernel))), (List.mem_append_right _ (List.mem_of_getElem? (i := 9) (by decide +kernel))), ⟨by decide +kernel, by decide +kernel⟩, by decide +kernel⟩, (List.mem_append_right _ (List.mem_of_getElem? (i := 1903) (by decide +kernel))), (List.mem_append_right _ (List.mem_of_getElem? (i := 1904) (by decide +kernel)))⟩
theorem K_RL_211 : x_KV RL 211 M_RH_forget 0 := ⟨⟨(List.mem_append_right _ (List.mem_of_getElem? (i := 440) (by decide +kernel))), (List.mem_append_right _ (List.mem_of_getElem? (i := 443) (by decide +kernel))), (List.mem_append_right _ (List.mem_of_getElem? (i := 1) (by decide +kernel))), ⟨by decide +kernel, by decide +kernel⟩, by decide +kernel⟩, (List.mem_append_right _ (List.mem_of_getElem? (i := 441) (by decide +kernel))), (List.mem_append_right _ (List.mem_of_getElem? (i := 442) (by decide +kernel)))⟩
theorem K_RL_214 : x_KV RL 214 M_Mo_forget 0 := ⟨⟨(List.mem_append_right _ (List.mem_of_getElem? (i := 1906) (by decide +kernel))), (List.mem_append_right _ (List.mem_of_getElem? (i := 1909) (by decide +kernel))), (List.mem_append_right _ (List.mem_of_getElem? (i := 9) (by decide +kernel))), ⟨by decide +kernel, by decide +kernel⟩, by decide +kernel⟩, (List.mem_append_right _ (List.mem_of_getElem? (i := 1907) (by decide +kernel))), (List.mem_append_right _ (List.mem_of_getElem? (i := 1908) (by decide +kernel)))⟩
theorem K_RL_217 : x_KV RL 217 M_Mo_runs 2 := ⟨⟨(List.mem_append_right _ (List.mem_of_getElem? (i := 1794) (by decide +kernel))), (List.mem_append_right _ (List.mem_of_getElem? (i := 1797) (by decide +kernel))), (List.mem_append_right _ (List.mem_of_getElem? (i := 9) (by decide +kernel))), ⟨by decide +kernel, by decide +kernel⟩, by decide +kernel⟩, (List.mem_append_right _ (List.mem_of_getElem? (i := 1795) (by decide +kernel))), (List.mem_append_right _ (List.mem_of_getElem? (i := 1796) (by decide +kernel)))⟩
theorem K_RL_218 : x_KV RL 218 M_RH_cure 0 := ⟨⟨(List.mem_append_right _ (List.mem_of_getElem? (i := 444) (by decide +kernel))), (List.mem_append_right _ (List.mem_of_getElem? (i := 447) (by decide +kernel))), (List.mem_append_right _ (List.mem_of_getElem? (i := 1) (by decide +kernel))), ⟨by decide +kernel, by decide +kernel⟩, by decide +kernel⟩, (List.mem_append_right _ (List.mem_of_getElem? (i := 445) (by decide +kernel))), (List.mem_append_right _ (List.mem_of_getElem? (i := 446) (by decide +kernel)))⟩
theorem K_RL_221 : x_KV RL 221 M_Mo_cure 0 := ⟨⟨(List.mem_append_right _ (List.mem_of_getElem? (i := 1802) (by decide +kernel))), (List.mem_append_right _ (List.mem_of_getElem? (i := 1805) (by decide +kernel))), (List.mem_append_right _ (List.mem_of_getElem? (i := 9) (by decide +kernel))), ⟨by decide +kernel, by decide +kernel⟩, by decide +kernel⟩, (List.mem_append_right _ (List.mem_of_getElem? (i := 1803) (by decide +kernel))), (List.mem_append_right _ (List.mem_of_getElem? (i := 1804) (by decide +kernel)))⟩
theorem K_RL_222 : x_KV RL 222 M_RH_wrists 0 := ⟨⟨(List.mem_append_right _ (List.mem_of_getElem? (i := 514) (by decide +kernel))), (List.mem_append_right _ (List.mem_of_getElem? (i := 517) (by decide +kernel))), (List.mem_append_right _ (List.mem_of_getElem? (i := 1) (by decide +kernel))), ⟨by decide +kernel, by decide +kernel⟩, by decide +kernel⟩, (List.mem_append_right _ (List.mem_of_getElem? (i := 515) (by decide +kernel))), (List.mem_append_right _ (List.mem_of_getElem? (i := 516) (by decide +kernel)))⟩
theorem K_RL_225 : x_KV RL 225 M_Mo_wrists 0 := ⟨⟨(List.mem_append_right _ (List.mem_of_getElem? (i := 1810) (by decide +kernel))), (List.mem_append_right _ (List.mem_of_getElem? (i := 1813) (by decide +kernel))), (List.mem_append_right _ (List.mem_of_getElem? (i := 9) (by decide +kernel))), ⟨by decide +kernel, by decide +kernel⟩, by decide +kernel⟩, (List.mem_append_right _ (List.mem_of_getElem? (i := 1811) (by decide +kernel))), (List.mem_append_right _ (List.mem_of_getElem? (i := 1812) (by decide +kernel)))⟩
theorem K_RL_226 : x_KV RL 226 M_RH_learn 0 := ⟨⟨(List.mem_append_right _ (List.mem_of_getElem? (i := 520) (by decide +kernel))), (List.mem_append_right _ (List.mem_of_getElem? (i := 523) (by decide +kernel))), (List.mem_append_right _ (List.mem_of_getElem? (i := 1) (by decide +kernel))), ⟨by decide +kernel, by decide +kernel⟩, by decide +kernel⟩, (List.mem_append_right _ (List.mem_of_getElem? (i := 521) (by decide +kernel))), (List.mem_append_right _ (List.mem_of_getElem? (i := 522) (by decide +kernel)))⟩
theorem K_RL_229 : x_KV RL 229 M_Mo_learn 0 := ⟨⟨(List.mem_append_right _ (List.mem_of_getElem? (i := 1814) (by decide +kernel))), (List.mem_append_right _ (List.mem_of_getElem? (i := 1817) (by decide +kernel))), (List.mem_append_right _ (List.mem_of_getElem? (i := 9) (by decide +kernel))), ⟨by decide +kernel, by decide +kernel⟩, by decide +kernel⟩, (List.mem_append_right _ (List.mem_of_getElem? (i := 1815) (by decide +kernel))), (List.mem_append_right _ (List.mem_of_getElem? (i := 1816) (by decide +kernel)))⟩
theorem K_RL_232 : x_KV RL 232 M_Mo_shift 1 := ⟨⟨(List.mem_append_right _ (List.mem_of_getElem? (i := 1818) (by decide +kernel))), (List.mem_append_right _ (List.mem_of_getElem? (i := 1821) (by decide +kernel))), (List.mem_append_right _ (List.mem_of_getElem? (i := 9) (by decide +kernel))), ⟨by decide +kernel, by decide +kernel⟩, by decide +kernel⟩, (List.mem_append_right _ (List.mem_of_getElem? (i := 1819) (by decide +kernel))), (List.mem_append_right _ (List.mem_of_getElem? (i := 1820) (by decide +kernel)))⟩
theorem K_RL_235 : x_KV RL 235 M_Mo_slip 1 := ⟨⟨(List.mem_append_right _ (List.mem_of_getElem? (i := 1822) (by decide +kernel))), (List.mem_append_right _ (List.mem_of_getElem? (i := 1825) (by decide +kernel))), (List.mem_append_right _ (List.mem_of_getElem? (i := 9) (by decide +kernel))), ⟨by decide +kernel, by decide +kernel⟩, by decide +kernel⟩, (List.mem_append_right _ (List.mem_of_getElem? (i := 1823) (by decide +kernel))), (List.mem_append_right _ (List.mem_of_getElem? (i := 1824) (by decide +kernel)))⟩
theorem K_RL_238 : x_KV RL 238 M_Mo_lags 1 := ⟨⟨(List.mem_append_right _ (List.mem_of_getElem? (i := 1826) (by decide +kernel))), (List.mem_append_right _ (List.mem_of_getElem? (i := 1829) (by decide +kernel))), (List.mem_append_right _ (List.mem_of_getElem? (i := 9) (by decide +kernel))), ⟨by decide +kernel, by decide +kernel⟩, by decide +kernel⟩, (List.mem_append_right _ (List.mem_of_getElem? (i := 1827) (by decide +kernel))), (List.mem_append_right _ (List.mem_of_getElem? (i := 1828) (by decide +kernel)))⟩
theorem K_RL_241 : x_KV RL 241 M_Mo_depth 2 := ⟨⟨(List.mem_append_right _ (List.mem_of_getElem? (i := 1834) (by decide +kernel))), (List.mem_append_right _ (List.mem_of_getElem? (i := 1837) (by decide +kernel))), (List.mem_append_right _ (List.mem_of_getElem? (i := 9) (by decide +kernel))), ⟨by decide +kernel, by decide +kernel⟩, by decide +kernel⟩, (List.mem_append_right _ (List.mem_of_getElem? (i := 1835) (by decide +kernel))), (List.mem_append_right _ (List.mem_of_getElem? (i := 1836) (by decide +kernel)))⟩
theorem K_RL_244 : x_KV RL 244 M_Mo_shots 1 := ⟨⟨(List.mem_append_right _ (List.mem_of_getElem? (i := 1838) (by decide +kernel))), (List.mem_append_right _ (List.mem_of_getElem? (i := 1841) (by decide +kernel))), (List.mem_append_right _ (List.mem_of_getElem? (i := 9) (by decide +kernel))), ⟨by decide +kernel, by decide +kernel⟩, by decide +kernel⟩, (List.mem_append_right _ (List.mem_of_getElem? (i := 1839) (by decide +kernel))), (List.mem_append_right _ (List.mem_of_getElem? (i := 1840) (by decide +kernel)))⟩
theorem K_RL_247 : x_KV RL 247 M_Mo_quickest 1 := ⟨⟨(List.mem_append_right _ (List.mem_of_getElem? (i := 1842) (by decide +kernel))), (List.mem_append_right _ (List.mem_of_getElem? (i := 1845) (by decide +kernel))), (List.mem_append_right _ (List.mem_of_getElem? (i := 9) (by decide +kernel))), ⟨by decide +kernel, by decide +kernel⟩, by decide +kernel⟩, (List.mem_append_right _ (List.mem_of_getElem? (i := 1843) (by decide +kernel))), (List.mem_append_right _ (List.mem_of_getElem? (i := 1844) (by decide +kernel)))⟩
theorem K_RL_248 : x_KV RL 248 M_RH_image 0 := ⟨⟨(List.mem_append_right _ (List.mem_of_getElem? (i := 524) (by decide +kernel))), (List.mem_append_right _ (List.mem_of_getElem? (i := 527) (by decide +kernel))), (List.mem_append_right _ (List.mem_of_getElem? (i := 1) (by decide +kernel))), ⟨by decide +kernel, by decide +kernel⟩, by decide +kernel⟩, (List.mem_append_right _ (List.mem_of_getElem? (i := 525) (by decide +kernel))), (List.mem_append_right _ (List.mem_of_getElem? (i := 526) (by decide +kernel)))⟩
theorem K_RL_251 : x_KV RL 251 M_Mo_image 0 := ⟨⟨(List.mem_append_right _ (List.mem_of_getElem? (i := 1910) (by decide +kernel))), (List.mem_append_right _ (List.mem_of_getElem? (i := 1913) (by decide +kernel))), (List.mem_append_right _ (List.mem_of_getElem? (i := 9) (by decide +kernel))), ⟨by decide +kernel, by decide +kernel⟩, by decide +kernel⟩, (List.mem_append_right _ (List.mem_of_getElem? (i := 1911) (by decide +kernel))), (List.mem_append_right _ (List.mem_of_getElem? (i := 1912) (by decide +kernel)))⟩
theorem K_RL_252 : x_KV RL 252 M_RH_restore 0 := ⟨⟨(List.mem_append_right _ (List.mem_of_getElem? (i := 532) (by decide +kernel))), (List.mem_append_right _ (List.mem_of_getElem? (i := 535) (by decide +kernel))), (List.mem_append_right _ (List.mem_of_getElem? (i := 1) (by decide +kernel))), ⟨by decide +kernel, by decide +kernel⟩, by decide +kernel⟩, (List.mem_append_right _ (List.mem_of_getElem? (i := 533) (by decide +kernel))), (List.mem_append_right _ (List.mem_of_getElem? (i := 534) (by decide +kernel)))⟩
theorem K_RL_256 : x_KV RL 256 M_Mo_restore 0 := ⟨⟨(List.mem_append_right _ (List.mem_of_getElem? (i := 1914) (by decide +kernel))), (List.mem_append_right _ (List.mem_of_getElem? (i := 1917) (by decide +kernel))), (List.mem_append_right _ (List.mem_of_getElem? (i := 9) (by decide +kernel))), ⟨by decide +kernel, by decide +kernel⟩, by decide +kernel⟩, (List.mem_append_right _ (List.mem_of_getElem? (i := 1915) (by decide +kernel))), (List.mem_append_right _ (List.mem_of_getElem? (i := 1916) (by decide +kernel)))⟩
theorem K_RL_99 : x_KV RL 99 M_RH_feed 5 := ⟨⟨(List.mem_append_right _ (List.mem_of_getElem? (i := 351) (by decide +kernel))), (List.mem_append_right _ (List.mem_of_getElem? (i := 354) (by decide +kernel))), (List.mem_append_right _ (List.mem_of_getElem? (i := 1) (by decide +kernel))), ⟨by decide +kernel, by decide +kernel⟩, by decide +kernel⟩, (List.mem_append_right _ (List.mem_of_getElem? (i := 352) (by decide +kernel))), (List.mem_append_right _ (List.mem_of_getElem? (i := 353) (by decide +kernel)))⟩
theorem dL_law_0 : decode cL_law 0 = .ok (.new 8, 3) := by decide +kernel
theorem dL_law_3 : decode cL_law 3 = .ok (.dup, 1) := by decide +kernel
theorem dL_law_4 : decode cL_law 4 = .ok (.invokespecial 95, 3) := by decide +kernel
theorem dL_law_7 : decode cL_law 7 = .ok (.astore_n 1, 1) := by decide +kernel
theorem dL_law_8 : decode cL_law 8 = .ok (.new 96, 3) := by decide +kernel
theorem dL_law_11 : decode cL_law 11 = .ok (.dup, 1) := by decide +kernel
theorem dL_law_12 : decode cL_law 12 = .ok (.invokespecial 98, 3) := by decide +kernel
theorem dL_law_15 : decode cL_law 15 = .ok (.astore_n 2, 1) := by decide +kernel
theorem dL_law_16 : decode cL_law 16 = .ok (.iconst 1, 1) := by decide +kernel
theorem dL_law_17 : decode cL_law 17 = .ok (.newarray .long, 2) := by decide +kernel
theorem dL_law_19 : decode cL_law 19 = .ok (.astore_n 3, 1) := by decide +kernel
theorem dL_law_20 : decode cL_law 20 = .ok (.iconst 0, 1) := by decide +kernel
theorem dL_law_21 : decode cL_law 21 = .ok (.istore 4, 2) := by decide +kernel
theorem dL_law_23 : decode cL_law 23 = .ok (.iload 4, 2) := by decide +kernel
theorem dL_law_25 : decode cL_law 25 = .ok (.aload_n 0, 1) := by decide +kernel
theorem dL_law_26 : decode cL_law 26 = .ok (.arraylength, 1) := by decide +kernel
theorem dL_law_27 : decode cL_law 27 = .ok (.bipush 6, 2) := by decide +kernel
theorem dL_law_29 : decode cL_law 29 = .ok (.isub, 1) := by decide +kernel
theorem dL_law_30 : decode cL_law 30 = .ok (.if_icmp .gt 2181, 3) := by decide +kernel
theorem dL_law_33 : decode cL_law 33 = .ok (.aload_n 0, 1) := by decide +kernel
theorem dL_law_34 : decode cL_law 34 = .ok (.iload 4, 2) := by decide +kernel
theorem dL_law_36 : decode cL_law 36 = .ok (.iaload, 1) := by decide +kernel
theorem dL_law_37 : decode cL_law 37 = .ok (.bipush 63, 2) := by decide +kernel
theorem dL_law_39 : decode cL_law 39 = .ok (.iand, 1) := by decide +kernel
theorem dL_law_40 : decode cL_law 40 = .ok (.tableswitch 2165 0 42 #[188, 261, 317, 330, 386, 442, 510, 566, 634, 690, 715, 740, 765, 790, 815, 840, 908, 921, 977, 1033, 1089, 1157, 1170, 1226, 1282, 1386, 1470, 1526, 1551, 1619, 1675, 1686, 1754, 1767, 1780, 1793, 1849, 1905, 1961, 2029, 2085, 2141, 2152], 188) := by decide +kernel
theorem dL_law_228 : decode cL_law 228 = .ok (.aload_n 1, 1) := by decide +kernel
theorem dL_law_229 : decode cL_law 229 = .ok (.aload_n 0, 1) := by decide +kernel
theorem dL_law_230 : decode cL_law 230 = .ok (.iload 4, 2) := by decide +kernel
theorem dL_law_232 : decode cL_law 232 = .ok (.iconst 1, 1) := by decide +kernel
theorem dL_law_233 : decode cL_law 233 = .ok (.iadd, 1) := by decide +kernel
theorem dL_law_234 : decode cL_law 234 = .ok (.iaload, 1) := by decide +kernel
theorem dL_law_235 : decode cL_law 235 = .ok (.aload_n 0, 1) := by decide +kernel
theorem dL_law_236 : decode cL_law 236 = .ok (.iload 4, 2) := by decide +kernel
theorem dL_law_238 : decode cL_law 238 = .ok (.iconst 2, 1) := by decide +kernel
theorem dL_law_239 : decode cL_law 239 = .ok (.iadd, 1) := by decide +kernel
theorem dL_law_240 : decode cL_law 240 = .ok (.iaload, 1) := by decide +kernel
theorem dL_law_241 : decode cL_law 241 = .ok (.aload_n 0, 1) := by decide +kernel
theorem dL_law_242 : decode cL_law 242 = .ok (.iload 4, 2) := by decide +kernel
theorem dL_law_244 : decode cL_law 244 = .ok (.iconst 3, 1) := by decide +kernel
theorem dL_law_245 : decode cL_law 245 = .ok (.iadd, 1) := by decide +kernel
theorem dL_law_246 : decode cL_law 246 = .ok (.iaload, 1) := by decide +kernel
theorem dL_law_247 : decode cL_law 247 = .ok (.aload_n 0, 1) := by decide +kernel
theorem dL_law_248 : decode cL_law 248 = .ok (.iload 4, 2) := by decide +kernel
theorem dL_law_250 : decode cL_law 250 = .ok (.iconst 4, 1) := by decide +kernel
theorem dL_law_251 : decode cL_law 251 = .ok (.iadd, 1) := by decide +kernel
theorem dL_law_252 : decode cL_law 252 = .ok (.iaload, 1) := by decide +kernel
theorem dL_law_253 : decode cL_law 253 = .ok (.aload_n 0, 1) := by decide +kernel
theorem dL_law_254 : decode cL_law 254 = .ok (.iload 4, 2) := by decide +kernel
theorem dL_law_256 : decode cL_law 256 = .ok (.iconst 5, 1) := by decide +kernel
theorem dL_law_257 : decode cL_law 257 = .ok (.iadd, 1) := by decide +kernel
theorem dL_law_258 : decode cL_law 258 = .ok (.iaload, 1) := by decide +kernel
theorem dL_law_259 : decode cL_law 259 = .ok (.invokevirtual 99, 3) := by decide +kernel
theorem dL_law_262 : decode cL_law 262 = .ok (.aload_n 2, 1) := by decide +kernel
theorem dL_law_263 : decode cL_law 263 = .ok (.aload_n 0, 1) := by decide +kernel
theorem dL_law_264 : decode cL_law 264 = .ok (.iload 4, 2) := by decide +kernel
theorem dL_law_266 : decode cL_law 266 = .ok (.iconst 1, 1) := by decide +kernel
theorem dL_law_267 : decode cL_law 267 = .ok (.iadd, 1) := by decide +kernel
theorem dL_law_268 : decode cL_law 268 = .ok (.iaload, 1) := by decide +kernel
theorem dL_law_269 : decode cL_law 269 = .ok (.aload_n 0, 1) := by decide +kernel
theorem dL_law_270 : decode cL_law 270 = .ok (.iload 4, 2) := by decide +kernel
theorem dL_law_272 : decode cL_law 272 = .ok (.iconst 2, 1) := by decide +kernel
theorem dL_law_273 : decode cL_law 273 = .ok (.iadd, 1) := by decide +kernel
theorem dL_law_274 : decode cL_law 274 = .ok (.iaload, 1) := by decide +kernel
theorem dL_law_275 : decode cL_law 275 = .ok (.aload_n 0, 1) := by decide +kernel
theorem dL_law_276 : decode cL_law 276 = .ok (.iload 4, 2) := by decide +kernel
theorem dL_law_278 : decode cL_law 278 = .ok (.iconst 3, 1) := by decide +kernel
theorem dL_law_279 : decode cL_law 279 = .ok (.iadd, 1) := by decide +kernel
theorem dL_law_280 : decode cL_law 280 = .ok (.iaload, 1) := by decide +kernel
theorem dL_law_281 : decode cL_law 281 = .ok (.aload_n 0, 1) := by decide +kernel
theorem dL_law_282 : decode cL_law 282 = .ok (.iload 4, 2) := by decide +kernel
theorem dL_law_284 : decode cL_law 284 = .ok (.iconst 4, 1) := by decide +kernel
theorem dL_law_285 : decode cL_law 285 = .ok (.iadd, 1) := by decide +kernel
theorem dL_law_286 : decode cL_law 286 = .ok (.iaload, 1) := by decide +kernel
theorem dL_law_287 : decode cL_law 287 = .ok (.aload_n 0, 1) := by decide +kernel
theorem dL_law_288 : decode cL_law 288 = .ok (.iload 4, 2) := by decide +kernel
theorem dL_law_290 : decode cL_law 290 = .ok (.iconst 5, 1) := by decide +kernel
theorem dL_law_291 : decode cL_law 291 = .ok (.iadd, 1) := by decide +kernel
theorem dL_law_292 : decode cL_law 292 = .ok (.iaload, 1) := by decide +kernel
theorem dL_law_293 : decode cL_law 293 = .ok (.invokevirtual 102, 3) := by decide +kernel
theorem dL_law_296 : decode cL_law 296 = .ok (.if_icmp .eq 1909, 3) := by decide +kernel
theorem dL_law_299 : decode cL_law 299 = .ok (.iconst 0, 1) := by decide +kernel
theorem dL_law_301 : decode cL_law 301 = .ok (.aload_n 1, 1) := by decide +kernel
theorem dL_law_302 : decode cL_law 302 = .ok (.aload_n 0, 1) := by decide +kernel
theorem dL_law_303 : decode cL_law 303 = .ok (.iload 4, 2) := by decide +kernel
theorem dL_law_305 : decode cL_law 305 = .ok (.iconst 1, 1) := by decide +kernel
theorem dL_law_306 : decode cL_law 306 = .ok (.iadd, 1) := by decide +kernel
theorem dL_law_307 : decode cL_law 307 = .ok (.iaload, 1) := by decide +kernel
theorem dL_law_308 : decode cL_law 308 = .ok (.aload_n 3, 1) := by decide +kernel
theorem dL_law_309 : decode cL_law 309 = .ok (.invokestatic 103, 3) := by decide +kernel
theorem dL_law_312 : decode cL_law 312 = .ok (.istore 5, 2) := by decide +kernel
theorem dL_law_314 : decode cL_law 314 = .ok (.aload_n 2, 1) := by decide +kernel
theorem dL_law_315 : decode cL_law 315 = .ok (.aload_n 0, 1) := by decide +kernel
theorem dL_law_316 : decode cL_law 316 = .ok (.iload 4, 2) := by decide +kernel
theorem dL_law_318 : decode cL_law 318 = .ok (.iconst 1, 1) := by decide +kernel
theorem dL_law_319 : decode cL_law 319 = .ok (.iadd, 1) := by decide +kernel
theorem dL_law_320 : decode cL_law 320 = .ok (.iaload, 1) := by decide +kernel
theorem dL_law_321 : decode cL_law 321 = .ok (.invokevirtual 108, 3) := by decide +kernel
theorem dL_law_324 : decode cL_law 324 = .ok (.istore 6, 2) := by decide +kernel
theorem dL_law_326 : decode cL_law 326 = .ok (.aload_n 2, 1) := by decide +kernel
theorem dL_law_327 : decode cL_law 327 = .ok (.invokevirtual 109, 3) := by decide +kernel
theorem dL_law_330 : decode cL_law 330 = .ok (.iload 5, 2) := by decide +kernel
theorem dL_law_332 : decode cL_law 332 = .ok (.if_icmp .eq 5, 3) := by decide +kernel
theorem dL_law_335 : decode cL_law 335 = .ok (.iconst 0, 1) := by decide +kernel
theorem dL_law_337 : decode cL_law 337 = .ok (.iload 5, 2) := by decide +kernel
theorem dL_law_339 : decode cL_law 339 = .ok (.ifCond .ne 15, 3) := by decide +kernel
theorem dL_law_342 : decode cL_law 342 = .ok (.aload_n 3, 1) := by decide +kernel
theorem dL_law_343 : decode cL_law 343 = .ok (.iconst 0, 1) := by decide +kernel
theorem dL_law_344 : decode cL_law 344 = .ok (.laload, 1) := by decide +kernel
theorem dL_law_345 : decode cL_law 345 = .ok (.iload 6, 2) := by decide +kernel
theorem dL_law_347 : decode cL_law 347 = .ok (.i2l, 1) := by decide +kernel
theorem dL_law_348 : decode cL_law 348 = .ok (.lcmp, 1) := by decide +kernel
theorem dL_law_349 : decode cL_law 349 = .ok (.ifCond .eq 5, 3) := by decide +kernel
theorem dL_law_352 : decode cL_law 352 = .ok (.iconst 0, 1) := by decide +kernel
theorem dL_law_354 : decode cL_law 354 = .ok (.goto 1851, 3) := by decide +kernel
theorem dL_law_357 : decode cL_law 357 = .ok (.aload_n 1, 1) := by decide +kernel
theorem dL_law_358 : decode cL_law 358 = .ok (.invokevirtual 113, 3) := by decide +kernel
theorem dL_law_361 : decode cL_law 361 = .ok (.aload_n 2, 1) := by decide +kernel
theorem dL_law_362 : decode cL_law 362 = .ok (.invokevirtual 116, 3) := by decide +kernel
theorem dL_law_365 : decode cL_law 365 = .ok (.if_icmp .eq 1840, 3) := by decide +kernel
theorem dL_law_368 : decode cL_law 368 = .ok (.iconst 0, 1) := by decide +kernel
theorem dL_law_370 : decode cL_law 370 = .ok (.aload_n 1, 1) := by decide +kernel
theorem dL_law_371 : decode cL_law 371 = .ok (.aload_n 0, 1) := by decide +kernel
theorem dL_law_372 : decode cL_law 372 = .ok (.iload 4, 2) := by decide +kernel
theorem dL_law_374 : decode cL_law 374 = .ok (.iconst 1, 1) := by decide +kernel
theorem dL_law_375 : decode cL_law 375 = .ok (.iadd, 1) := by decide +kernel
theorem dL_law_376 : decode cL_law 376 = .ok (.iaload, 1) := by decide +kernel
theorem dL_law_377 : decode cL_law 377 = .ok (.aload_n 3, 1) := by decide +kernel
theorem dL_law_378 : decode cL_law 378 = .ok (.invokestatic 117, 3) := by decide +kernel
theorem dL_law_381 : decode cL_law 381 = .ok (.istore 5, 2) := by decide +kernel
theorem dL_law_383 : decode cL_law 383 = .ok (.aload_n 2, 1) := by decide +kernel
theorem dL_law_384 : decode cL_law 384 = .ok (.aload_n 0, 1) := by decide +kernel
theorem dL_law_385 : decode cL_law 385 = .ok (.iload 4, 2) := by decide +kernel
theorem dL_law_387 : decode cL_law 387 = .ok (.iconst 1, 1) := by decide +kernel
theorem dL_law_388 : decode cL_law 388 = .ok (.iadd, 1) := by decide +kernel
theorem dL_law_389 : decode cL_law 389 = .ok (.iaload, 1) := by decide +kernel
theorem dL_law_390 : decode cL_law 390 = .ok (.invokevirtual 119, 3) := by decide +kernel
theorem dL_law_393 : decode cL_law 393 = .ok (.istore 6, 2) := by decide +kernel
theorem dL_law_395 : decode cL_law 395 = .ok (.aload_n 2, 1) := by decide +kernel
theorem dL_law_396 : decode cL_law 396 = .ok (.invokevirtual 109, 3) := by decide +kernel
theorem dL_law_399 : decode cL_law 399 = .ok (.iload 5, 2) := by decide +kernel
theorem dL_law_401 : decode cL_law 401 = .ok (.if_icmp .eq 5, 3) := by decide +kernel
theorem dL_law_404 : decode cL_law 404 = .ok (.iconst 0, 1) := by decide +kernel
theorem dL_law_406 : decode cL_law 406 = .ok (.iload 5, 2) := by decide +kernel
theorem dL_law_408 : decode cL_law 408 = .ok (.ifCond .ne 15, 3) := by decide +kernel
theorem dL_law_411 : decode cL_law 411 = .ok (.aload_n 3, 1) := by decide +kernel
theorem dL_law_412 : decode cL_law 412 = .ok (.iconst 0, 1) := by decide +kernel
theorem dL_law_413 : decode cL_law 413 = .ok (.laload, 1) := by decide +kernel
theorem dL_law_414 : decode cL_law 414 = .ok (.iload 6, 2) := by decide +kernel
theorem dL_law_416 : decode cL_law 416 = .ok (.i2l, 1) := by decide +kernel
theorem dL_law_417 : decode cL_law 417 = .ok (.lcmp, 1) := by decide +kernel
theorem dL_law_418 : decode cL_law 418 = .ok (.ifCond .eq 5, 3) := by decide +kernel
theorem dL_law_421 : decode cL_law 421 = .ok (.iconst 0, 1) := by decide +kernel
theorem dL_law_423 : decode cL_law 423 = .ok (.goto 1782, 3) := by decide +kernel
theorem dL_law_426 : decode cL_law 426 = .ok (.aload_n 1, 1) := by decide +kernel
theorem dL_law_427 : decode cL_law 427 = .ok (.aload_n 0, 1) := by decide +kernel
theorem dL_law_428 : decode cL_law 428 = .ok (.iload 4, 2) := by decide +kernel
theorem dL_law_430 : decode cL_law 430 = .ok (.iconst 1, 1) := by decide +kernel
theorem dL_law_431 : decode cL_law 431 = .ok (.iadd, 1) := by decide +kernel
theorem dL_law_432 : decode cL_law 432 = .ok (.iaload, 1) := by decide +kernel
theorem dL_law_433 : decode cL_law 433 = .ok (.aload_n 3, 1) := by decide +kernel
theorem dL_law_434 : decode cL_law 434 = .ok (.invokestatic 120, 3) := by decide +kernel
theorem dL_law_437 : decode cL_law 437 = .ok (.istore 5, 2) := by decide +kernel
theorem dL_law_439 : decode cL_law 439 = .ok (.aload_n 2, 1) := by decide +kernel
theorem dL_law_440 : decode cL_law 440 = .ok (.aload_n 0, 1) := by decide +kernel
theorem dL_law_441 : decode cL_law 441 = .ok (.iload 4, 2) := by decide +kernel
theorem dL_law_443 : decode cL_law 443 = .ok (.iconst 1, 1) := by decide +kernel
theorem dL_law_444 : decode cL_law 444 = .ok (.iadd, 1) := by decide +kernel
theorem dL_law_445 : decode cL_law 445 = .ok (.iaload, 1) := by decide +kernel
theorem dL_law_446 : decode cL_law 446 = .ok (.invokevirtual 122, 3) := by decide +kernel
theorem dL_law_449 : decode cL_law 449 = .ok (.istore 6, 2) := by decide +kernel
theorem dL_law_451 : decode cL_law 451 = .ok (.aload_n 2, 1) := by decide +kernel
theorem dL_law_452 : decode cL_law 452 = .ok (.invokevirtual 109, 3) := by decide +kernel
theorem dL_law_455 : decode cL_law 455 = .ok (.iload 5, 2) := by decide +kernel
theorem dL_law_457 : decode cL_law 457 = .ok (.if_icmp .eq 5, 3) := by decide +kernel
theorem dL_law_460 : decode cL_law 460 = .ok (.iconst 0, 1) := by decide +kernel
theorem dL_law_462 : decode cL_law 462 = .ok (.iload 5, 2) := by decide +kernel
theorem dL_law_464 : decode cL_law 464 = .ok (.ifCond .ne 15, 3) := by decide +kernel
theorem dL_law_467 : decode cL_law 467 = .ok (.aload_n 3, 1) := by decide +kernel
theorem dL_law_468 : decode cL_law 468 = .ok (.iconst 0, 1) := by decide +kernel
theorem dL_law_469 : decode cL_law 469 = .ok (.laload, 1) := by decide +kernel
theorem dL_law_470 : decode cL_law 470 = .ok (.iload 6, 2) := by decide +kernel
theorem dL_law_472 : decode cL_law 472 = .ok (.i2l, 1) := by decide +kernel
theorem dL_law_473 : decode cL_law 473 = .ok (.lcmp, 1) := by decide +kernel
theorem dL_law_474 : decode cL_law 474 = .ok (.ifCond .eq 5, 3) := by decide +kernel
theorem dL_law_477 : decode cL_law 477 = .ok (.iconst 0, 1) := by decide +kernel
theorem dL_law_479 : decode cL_law 479 = .ok (.goto 1726, 3) := by decide +kernel
theorem dL_law_482 : decode cL_law 482 = .ok (.aload_n 1, 1) := by decide +kernel
theorem dL_law_483 : decode cL_law 483 = .ok (.aload_n 0, 1) := by decide +kernel
theorem dL_law_484 : decode cL_law 484 = .ok (.iload 4, 2) := by decide +kernel
theorem dL_law_486 : decode cL_law 486 = .ok (.iconst 1, 1) := by decide +kernel
theorem dL_law_487 : decode cL_law 487 = .ok (.iadd, 1) := by decide +kernel
theorem dL_law_488 : decode cL_law 488 = .ok (.iaload, 1) := by decide +kernel
theorem dL_law_489 : decode cL_law 489 = .ok (.aload_n 0, 1) := by decide +kernel
theorem dL_law_490 : decode cL_law 490 = .ok (.iload 4, 2) := by decide +kernel
theorem dL_law_492 : decode cL_law 492 = .ok (.iconst 2, 1) := by decide +kernel
theorem dL_law_493 : decode cL_law 493 = .ok (.iadd, 1) := by decide +kernel
theorem dL_law_494 : decode cL_law 494 = .ok (.iaload, 1) := by decide +kernel
theorem dL_law_495 : decode cL_law 495 = .ok (.aload_n 3, 1) := by decide +kernel
theorem dL_law_496 : decode cL_law 496 = .ok (.invokestatic 123, 3) := by decide +kernel
theorem dL_law_499 : decode cL_law 499 = .ok (.istore 5, 2) := by decide +kernel
theorem dL_law_501 : decode cL_law 501 = .ok (.aload_n 2, 1) := by decide +kernel
theorem dL_law_502 : decode cL_law 502 = .ok (.aload_n 0, 1) := by decide +kernel
theorem dL_law_503 : decode cL_law 503 = .ok (.iload 4, 2) := by decide +kernel
theorem dL_law_505 : decode cL_law 505 = .ok (.iconst 1, 1) := by decide +kernel
theorem dL_law_506 : decode cL_law 506 = .ok (.iadd, 1) := by decide +kernel
theorem dL_law_507 : decode cL_law 507 = .ok (.iaload, 1) := by decide +kernel
theorem dL_law_508 : decode cL_law 508 = .ok (.aload_n 0, 1) := by decide +kernel
theorem dL_law_509 : decode cL_law 509 = .ok (.iload 4, 2) := by decide +kernel
theorem dL_law_511 : decode cL_law 511 = .ok (.iconst 2, 1) := by decide +kernel
theorem dL_law_512 : decode cL_law 512 = .ok (.iadd, 1) := by decide +kernel
theorem dL_law_513 : decode cL_law 513 = .ok (.iaload, 1) := by decide +kernel
theorem dL_law_514 : decode cL_law 514 = .ok (.invokevirtual 126, 3) := by decide +kernel
theorem dL_law_517 : decode cL_law 517 = .ok (.istore 6, 2) := by decide +kernel
theorem dL_law_519 : decode cL_law 519 = .ok (.aload_n 2, 1) := by decide +kernel
theorem dL_law_520 : decode cL_law 520 = .ok (.invokevirtual 109, 3) := by decide +kernel
theorem dL_law_523 : decode cL_law 523 = .ok (.iload 5, 2) := by decide +kernel
theorem dL_law_525 : decode cL_law 525 = .ok (.if_icmp .eq 5, 3) := by decide +kernel
theorem dL_law_528 : decode cL_law 528 = .ok (.iconst 0, 1) := by decide +kernel
theorem dL_law_530 : decode cL_law 530 = .ok (.iload 5, 2) := by decide +kernel
theorem dL_law_532 : decode cL_law 532 = .ok (.ifCond .ne 15, 3) := by decide +kernel
theorem dL_law_535 : decode cL_law 535 = .ok (.aload_n 3, 1) := by decide +kernel
theorem dL_law_536 : decode cL_law 536 = .ok (.iconst 0, 1) := by decide +kernel
theorem dL_law_537 : decode cL_law 537 = .ok (.laload, 1) := by decide +kernel
theorem dL_law_538 : decode cL_law 538 = .ok (.iload 6, 2) := by decide +kernel
theorem dL_law_540 : decode cL_law 540 = .ok (.i2l, 1) := by decide +kernel
theorem dL_law_541 : decode cL_law 541 = .ok (.lcmp, 1) := by decide +kernel
theorem dL_law_542 : decode cL_law 542 = .ok (.ifCond .eq 5, 3) := by decide +kernel
theorem dL_law_545 : decode cL_law 545 = .ok (.iconst 0, 1) := by decide +kernel
theorem dL_law_547 : decode cL_law 547 = .ok (.goto 1658, 3) := by decide +kernel
theorem dL_law_550 : decode cL_law 550 = .ok (.aload_n 1, 1) := by decide +kernel
theorem dL_law_551 : decode cL_law 551 = .ok (.aload_n 0, 1) := by decide +kernel
theorem dL_law_552 : decode cL_law 552 = .ok (.iload 4, 2) := by decide +kernel
theorem dL_law_554 : decode cL_law 554 = .ok (.iconst 1, 1) := by decide +kernel
theorem dL_law_555 : decode cL_law 555 = .ok (.iadd, 1) := by decide +kernel
theorem dL_law_556 : decode cL_law 556 = .ok (.iaload, 1) := by decide +kernel
theorem dL_law_557 : decode cL_law 557 = .ok (.aload_n 3, 1) := by decide +kernel
theorem dL_law_558 : decode cL_law 558 = .ok (.invokestatic 127, 3) := by decide +kernel
theorem dL_law_561 : decode cL_law 561 = .ok (.istore 5, 2) := by decide +kernel
theorem dL_law_563 : decode cL_law 563 = .ok (.aload_n 2, 1) := by decide +kernel
theorem dL_law_564 : decode cL_law 564 = .ok (.aload_n 0, 1) := by decide +kernel
theorem dL_law_565 : decode cL_law 565 = .ok (.iload 4, 2) := by decide +kernel
theorem dL_law_567 : decode cL_law 567 = .ok (.iconst 1, 1) := by decide +kernel
theorem dL_law_568 : decode cL_law 568 = .ok (.iadd, 1) := by decide +kernel
theorem dL_law_569 : decode cL_law 569 = .ok (.iaload, 1) := by decide +kernel
theorem dL_law_570 : decode cL_law 570 = .ok (.invokevirtual 129, 3) := by decide +kernel
theorem dL_law_573 : decode cL_law 573 = .ok (.istore 6, 2) := by decide +kernel
theorem dL_law_575 : decode cL_law 575 = .ok (.aload_n 2, 1) := by decide +kernel
theorem dL_law_576 : decode cL_law 576 = .ok (.invokevirtual 109, 3) := by decide +kernel
theorem dL_law_579 : decode cL_law 579 = .ok (.iload 5, 2) := by decide +kernel
theorem dL_law_581 : decode cL_law 581 = .ok (.if_icmp .eq 5, 3) := by decide +kernel
theorem dL_law_584 : decode cL_law 584 = .ok (.iconst 0, 1) := by decide +kernel
theorem dL_law_586 : decode cL_law 586 = .ok (.iload 5, 2) := by decide +kernel
theorem dL_law_588 : decode cL_law 588 = .ok (.ifCond .ne 15, 3) := by decide +kernel
theorem dL_law_591 : decode cL_law 591 = .ok (.aload_n 3, 1) := by decide +kernel
theorem dL_law_592 : decode cL_law 592 = .ok (.iconst 0, 1) := by decide +kernel
theorem dL_law_593 : decode cL_law 593 = .ok (.laload, 1) := by decide +kernel
theorem dL_law_594 : decode cL_law 594 = .ok (.iload 6, 2) := by decide +kernel
theorem dL_law_596 : decode cL_law 596 = .ok (.i2l, 1) := by decide +kernel
theorem dL_law_597 : decode cL_law 597 = .ok (.lcmp, 1) := by decide +kernel
theorem dL_law_598 : decode cL_law 598 = .ok (.ifCond .eq 5, 3) := by decide +kernel
theorem dL_law_601 : decode cL_law 601 = .ok (.iconst 0, 1) := by decide +kernel
theorem dL_law_603 : decode cL_law 603 = .ok (.goto 1602, 3) := by decide +kernel
theorem dL_law_606 : decode cL_law 606 = .ok (.aload_n 1, 1) := by decide +kernel
theorem dL_law_607 : decode cL_law 607 = .ok (.aload_n 0, 1) := by decide +kernel
theorem dL_law_608 : decode cL_law 608 = .ok (.iload 4, 2) := by decide +kernel
theorem dL_law_610 : decode cL_law 610 = .ok (.iconst 1, 1) := by decide +kernel
theorem dL_law_611 : decode cL_law 611 = .ok (.iadd, 1) := by decide +kernel
theorem dL_law_612 : decode cL_law 612 = .ok (.iaload, 1) := by decide +kernel
theorem dL_law_613 : decode cL_law 613 = .ok (.aload_n 0, 1) := by decide +kernel
theorem dL_law_614 : decode cL_law 614 = .ok (.iload 4, 2) := by decide +kernel
theorem dL_law_616 : decode cL_law 616 = .ok (.iconst 2, 1) := by decide +kernel
theorem dL_law_617 : decode cL_law 617 = .ok (.iadd, 1) := by decide +kernel
theorem dL_law_618 : decode cL_law 618 = .ok (.iaload, 1) := by decide +kernel
theorem dL_law_619 : decode cL_law 619 = .ok (.aload_n 3, 1) := by decide +kernel
theorem dL_law_620 : decode cL_law 620 = .ok (.invokestatic 130, 3) := by decide +kernel
theorem dL_law_623 : decode cL_law 623 = .ok (.istore 5, 2) := by decide +kernel
theorem dL_law_625 : decode cL_law 625 = .ok (.aload_n 2, 1) := by decide +kernel
theorem dL_law_626 : decode cL_law 626 = .ok (.aload_n 0, 1) := by decide +kernel
theorem dL_law_627 : decode cL_law 627 = .ok (.iload 4, 2) := by decide +kernel
theorem dL_law_629 : decode cL_law 629 = .ok (.iconst 1, 1) := by decide +kernel
theorem dL_law_630 : decode cL_law 630 = .ok (.iadd, 1) := by decide +kernel
theorem dL_law_631 : decode cL_law 631 = .ok (.iaload, 1) := by decide +kernel
theorem dL_law_632 : decode cL_law 632 = .ok (.aload_n 0, 1) := by decide +kernel
theorem dL_law_633 : decode cL_law 633 = .ok (.iload 4, 2) := by decide +kernel
theorem dL_law_635 : decode cL_law 635 = .ok (.iconst 2, 1) := by decide +kernel
theorem dL_law_636 : decode cL_law 636 = .ok (.iadd, 1) := by decide +kernel
theorem dL_law_637 : decode cL_law 637 = .ok (.iaload, 1) := by decide +kernel
theorem dL_law_638 : decode cL_law 638 = .ok (.invokevirtual 132, 3) := by decide +kernel
theorem dL_law_641 : decode cL_law 641 = .ok (.istore 6, 2) := by decide +kernel
theorem dL_law_643 : decode cL_law 643 = .ok (.aload_n 2, 1) := by decide +kernel
theorem dL_law_644 : decode cL_law 644 = .ok (.invokevirtual 109, 3) := by decide +kernel
theorem dL_law_647 : decode cL_law 647 = .ok (.iload 5, 2) := by decide +kernel
theorem dL_law_649 : decode cL_law 649 = .ok (.if_icmp .eq 5, 3) := by decide +kernel
theorem dL_law_652 : decode cL_law 652 = .ok (.iconst 0, 1) := by decide +kernel
theorem dL_law_654 : decode cL_law 654 = .ok (.iload 5, 2) := by decide +kernel
theorem dL_law_656 : decode cL_law 656 = .ok (.ifCond .ne 15, 3) := by decide +kernel
theorem dL_law_659 : decode cL_law 659 = .ok (.aload_n 3, 1) := by decide +kernel
theorem dL_law_660 : decode cL_law 660 = .ok (.iconst 0, 1) := by decide +kernel
theorem dL_law_661 : decode cL_law 661 = .ok (.laload, 1) := by decide +kernel
theorem dL_law_662 : decode cL_law 662 = .ok (.iload 6, 2) := by decide +kernel
theorem dL_law_664 : decode cL_law 664 = .ok (.i2l, 1) := by decide +kernel
theorem dL_law_665 : decode cL_law 665 = .ok (.lcmp, 1) := by decide +kernel
theorem dL_law_666 : decode cL_law 666 = .ok (.ifCond .eq 5, 3) := by decide +kernel
theorem dL_law_669 : decode cL_law 669 = .ok (.iconst 0, 1) := by decide +kernel
theorem dL_law_671 : decode cL_law 671 = .ok (.goto 1534, 3) := by decide +kernel
theorem dL_law_674 : decode cL_law 674 = .ok (.aload_n 1, 1) := by decide +kernel
theorem dL_law_675 : decode cL_law 675 = .ok (.aload_n 0, 1) := by decide +kernel
theorem dL_law_676 : decode cL_law 676 = .ok (.iload 4, 2) := by decide +kernel
theorem dL_law_678 : decode cL_law 678 = .ok (.iconst 1, 1) := by decide +kernel
theorem dL_law_679 : decode cL_law 679 = .ok (.iadd, 1) := by decide +kernel
theorem dL_law_680 : decode cL_law 680 = .ok (.iaload, 1) := by decide +kernel
theorem dL_law_681 : decode cL_law 681 = .ok (.aload_n 3, 1) := by decide +kernel
theorem dL_law_682 : decode cL_law 682 = .ok (.invokestatic 133, 3) := by decide +kernel
theorem dL_law_685 : decode cL_law 685 = .ok (.istore 5, 2) := by decide +kernel
theorem dL_law_687 : decode cL_law 687 = .ok (.aload_n 2, 1) := by decide +kernel
theorem dL_law_688 : decode cL_law 688 = .ok (.aload_n 0, 1) := by decide +kernel
theorem dL_law_689 : decode cL_law 689 = .ok (.iload 4, 2) := by decide +kernel
theorem dL_law_691 : decode cL_law 691 = .ok (.iconst 1, 1) := by decide +kernel
theorem dL_law_692 : decode cL_law 692 = .ok (.iadd, 1) := by decide +kernel
theorem dL_law_693 : decode cL_law 693 = .ok (.iaload, 1) := by decide +kernel
theorem dL_law_694 : decode cL_law 694 = .ok (.invokevirtual 135, 3) := by decide +kernel
theorem dL_law_697 : decode cL_law 697 = .ok (.istore 6, 2) := by decide +kernel
theorem dL_law_699 : decode cL_law 699 = .ok (.aload_n 2, 1) := by decide +kernel
theorem dL_law_700 : decode cL_law 700 = .ok (.invokevirtual 109, 3) := by decide +kernel
theorem dL_law_703 : decode cL_law 703 = .ok (.iload 5, 2) := by decide +kernel
theorem dL_law_705 : decode cL_law 705 = .ok (.if_icmp .eq 5, 3) := by decide +kernel
theorem dL_law_708 : decode cL_law 708 = .ok (.iconst 0, 1) := by decide +kernel
theorem dL_law_710 : decode cL_law 710 = .ok (.iload 5, 2) := by decide +kernel
theorem dL_law_712 : decode cL_law 712 = .ok (.ifCond .ne 15, 3) := by decide +kernel
theorem dL_law_715 : decode cL_law 715 = .ok (.aload_n 3, 1) := by decide +kernel
theorem dL_law_716 : decode cL_law 716 = .ok (.iconst 0, 1) := by decide +kernel
theorem dL_law_717 : decode cL_law 717 = .ok (.laload, 1) := by decide +kernel
theorem dL_law_718 : decode cL_law 718 = .ok (.iload 6, 2) := by decide +kernel
theorem dL_law_720 : decode cL_law 720 = .ok (.i2l, 1) := by decide +kernel
theorem dL_law_721 : decode cL_law 721 = .ok (.lcmp, 1) := by decide +kernel
theorem dL_law_722 : decode cL_law 722 = .ok (.ifCond .eq 5, 3) := by decide +kernel
theorem dL_law_725 : decode cL_law 725 = .ok (.iconst 0, 1) := by decide +kernel
theorem dL_law_727 : decode cL_law 727 = .ok (.goto 1478, 3) := by decide +kernel
theorem dL_law_730 : decode cL_law 730 = .ok (.aload_n 1, 1) := by decide +kernel
theorem dL_law_731 : decode cL_law 731 = .ok (.aload_n 0, 1) := by decide +kernel
theorem dL_law_732 : decode cL_law 732 = .ok (.iload 4, 2) := by decide +kernel
theorem dL_law_734 : decode cL_law 734 = .ok (.iconst 1, 1) := by decide +kernel
theorem dL_law_735 : decode cL_law 735 = .ok (.iadd, 1) := by decide +kernel
theorem dL_law_736 : decode cL_law 736 = .ok (.iaload, 1) := by decide +kernel
theorem dL_law_737 : decode cL_law 737 = .ok (.invokevirtual 136, 3) := by decide +kernel
theorem dL_law_740 : decode cL_law 740 = .ok (.aload_n 2, 1) := by decide +kernel
theorem dL_law_741 : decode cL_law 741 = .ok (.aload_n 0, 1) := by decide +kernel
theorem dL_law_742 : decode cL_law 742 = .ok (.iload 4, 2) := by decide +kernel
theorem dL_law_744 : decode cL_law 744 = .ok (.iconst 1, 1) := by decide +kernel
theorem dL_law_745 : decode cL_law 745 = .ok (.iadd, 1) := by decide +kernel
theorem dL_law_746 : decode cL_law 746 = .ok (.iaload, 1) := by decide +kernel
theorem dL_law_747 : decode cL_law 747 = .ok (.invokevirtual 139, 3) := by decide +kernel
theorem dL_law_750 : decode cL_law 750 = .ok (.if_icmp .eq 1455, 3) := by decide +kernel
theorem dL_law_753 : decode cL_law 753 = .ok (.iconst 0, 1) := by decide +kernel
theorem dL_law_755 : decode cL_law 755 = .ok (.aload_n 1, 1) := by decide +kernel
theorem dL_law_756 : decode cL_law 756 = .ok (.aload_n 0, 1) := by decide +kernel
theorem dL_law_757 : decode cL_law 757 = .ok (.iload 4, 2) := by decide +kernel
theorem dL_law_759 : decode cL_law 759 = .ok (.iconst 1, 1) := by decide +kernel
theorem dL_law_760 : decode cL_law 760 = .ok (.iadd, 1) := by decide +kernel
theorem dL_law_761 : decode cL_law 761 = .ok (.iaload, 1) := by decide +kernel
theorem dL_law_762 : decode cL_law 762 = .ok (.invokevirtual 140, 3) := by decide +kernel
theorem dL_law_765 : decode cL_law 765 = .ok (.aload_n 2, 1) := by decide +kernel
theorem dL_law_766 : decode cL_law 766 = .ok (.aload_n 0, 1) := by decide +kernel
theorem dL_law_767 : decode cL_law 767 = .ok (.iload 4, 2) := by decide +kernel
theorem dL_law_769 : decode cL_law 769 = .ok (.iconst 1, 1) := by decide +kernel
theorem dL_law_770 : decode cL_law 770 = .ok (.iadd, 1) := by decide +kernel
theorem dL_law_771 : decode cL_law 771 = .ok (.iaload, 1) := by decide +kernel
theorem dL_law_772 : decode cL_law 772 = .ok (.invokevirtual 143, 3) := by decide +kernel
theorem dL_law_775 : decode cL_law 775 = .ok (.if_icmp .eq 1430, 3) := by decide +kernel
theorem dL_law_778 : decode cL_law 778 = .ok (.iconst 0, 1) := by decide +kernel
theorem dL_law_780 : decode cL_law 780 = .ok (.aload_n 1, 1) := by decide +kernel
theorem dL_law_781 : decode cL_law 781 = .ok (.aload_n 0, 1) := by decide +kernel
theorem dL_law_782 : decode cL_law 782 = .ok (.iload 4, 2) := by decide +kernel
theorem dL_law_784 : decode cL_law 784 = .ok (.iconst 1, 1) := by decide +kernel
theorem dL_law_785 : decode cL_law 785 = .ok (.iadd, 1) := by decide +kernel
theorem dL_law_786 : decode cL_law 786 = .ok (.iaload, 1) := by decide +kernel
theorem dL_law_787 : decode cL_law 787 = .ok (.invokevirtual 144, 3) := by decide +kernel
theorem dL_law_790 : decode cL_law 790 = .ok (.aload_n 2, 1) := by decide +kernel
theorem dL_law_791 : decode cL_law 791 = .ok (.aload_n 0, 1) := by decide +kernel
theorem dL_law_792 : decode cL_law 792 = .ok (.iload 4, 2) := by decide +kernel
theorem dL_law_794 : decode cL_law 794 = .ok (.iconst 1, 1) := by decide +kernel
theorem dL_law_795 : decode cL_law 795 = .ok (.iadd, 1) := by decide +kernel
theorem dL_law_796 : decode cL_law 796 = .ok (.iaload, 1) := by decide +kernel
theorem dL_law_797 : decode cL_law 797 = .ok (.invokevirtual 147, 3) := by decide +kernel
theorem dL_law_800 : decode cL_law 800 = .ok (.if_icmp .eq 1405, 3) := by decide +kernel
theorem dL_law_803 : decode cL_law 803 = .ok (.iconst 0, 1) := by decide +kernel
theorem dL_law_805 : decode cL_law 805 = .ok (.aload_n 1, 1) := by decide +kernel
theorem dL_law_806 : decode cL_law 806 = .ok (.aload_n 0, 1) := by decide +kernel
theorem dL_law_807 : decode cL_law 807 = .ok (.iload 4, 2) := by decide +kernel
theorem dL_law_809 : decode cL_law 809 = .ok (.iconst 1, 1) := by decide +kernel
theorem dL_law_810 : decode cL_law 810 = .ok (.iadd, 1) := by decide +kernel
theorem dL_law_811 : decode cL_law 811 = .ok (.iaload, 1) := by decide +kernel
theorem dL_law_812 : decode cL_law 812 = .ok (.invokevirtual 148, 3) := by decide +kernel
theorem dL_law_815 : decode cL_law 815 = .ok (.aload_n 2, 1) := by decide +kernel
theorem dL_law_816 : decode cL_law 816 = .ok (.aload_n 0, 1) := by decide +kernel
theorem dL_law_817 : decode cL_law 817 = .ok (.iload 4, 2) := by decide +kernel
theorem dL_law_819 : decode cL_law 819 = .ok (.iconst 1, 1) := by decide +kernel
theorem dL_law_820 : decode cL_law 820 = .ok (.iadd, 1) := by decide +kernel
theorem dL_law_821 : decode cL_law 821 = .ok (.iaload, 1) := by decide +kernel
theorem dL_law_822 : decode cL_law 822 = .ok (.invokevirtual 151, 3) := by decide +kernel
theorem dL_law_825 : decode cL_law 825 = .ok (.if_icmp .eq 1380, 3) := by decide +kernel
theorem dL_law_828 : decode cL_law 828 = .ok (.iconst 0, 1) := by decide +kernel
theorem dL_law_830 : decode cL_law 830 = .ok (.aload_n 1, 1) := by decide +kernel
theorem dL_law_831 : decode cL_law 831 = .ok (.aload_n 0, 1) := by decide +kernel
theorem dL_law_832 : decode cL_law 832 = .ok (.iload 4, 2) := by decide +kernel
theorem dL_law_834 : decode cL_law 834 = .ok (.iconst 1, 1) := by decide +kernel
theorem dL_law_835 : decode cL_law 835 = .ok (.iadd, 1) := by decide +kernel
theorem dL_law_836 : decode cL_law 836 = .ok (.iaload, 1) := by decide +kernel
theorem dL_law_837 : decode cL_law 837 = .ok (.invokevirtual 152, 3) := by decide +kernel
theorem dL_law_840 : decode cL_law 840 = .ok (.aload_n 2, 1) := by decide +kernel
theorem dL_law_841 : decode cL_law 841 = .ok (.aload_n 0, 1) := by decide +kernel
theorem dL_law_842 : decode cL_law 842 = .ok (.iload 4, 2) := by decide +kernel
theorem dL_law_844 : decode cL_law 844 = .ok (.iconst 1, 1) := by decide +kernel
theorem dL_law_845 : decode cL_law 845 = .ok (.iadd, 1) := by decide +kernel
theorem dL_law_846 : decode cL_law 846 = .ok (.iaload, 1) := by decide +kernel
theorem dL_law_847 : decode cL_law 847 = .ok (.invokevirtual 156, 3) := by decide +kernel
theorem dL_law_850 : decode cL_law 850 = .ok (.if_icmp .eq 1355, 3) := by decide +kernel
theorem dL_law_853 : decode cL_law 853 = .ok (.iconst 0, 1) := by decide +kernel
theorem dL_law_855 : decode cL_law 855 = .ok (.aload_n 1, 1) := by decide +kernel
theorem dL_law_856 : decode cL_law 856 = .ok (.aload_n 0, 1) := by decide +kernel
theorem dL_law_857 : decode cL_law 857 = .ok (.iload 4, 2) := by decide +kernel
theorem dL_law_859 : decode cL_law 859 = .ok (.iconst 1, 1) := by decide +kernel
theorem dL_law_860 : decode cL_law 860 = .ok (.iadd, 1) := by decide +kernel
theorem dL_law_861 : decode cL_law 861 = .ok (.iaload, 1) := by decide +kernel
theorem dL_law_862 : decode cL_law 862 = .ok (.invokevirtual 157, 3) := by decide +kernel
theorem dL_law_865 : decode cL_law 865 = .ok (.aload_n 2, 1) := by decide +kernel
theorem dL_law_866 : decode cL_law 866 = .ok (.aload_n 0, 1) := by decide +kernel
theorem dL_law_867 : decode cL_law 867 = .ok (.iload 4, 2) := by decide +kernel
theorem dL_law_869 : decode cL_law 869 = .ok (.iconst 1, 1) := by decide +kernel
theorem dL_law_870 : decode cL_law 870 = .ok (.iadd, 1) := by decide +kernel
theorem dL_law_871 : decode cL_law 871 = .ok (.iaload, 1) := by decide +kernel
theorem dL_law_872 : decode cL_law 872 = .ok (.invokevirtual 160, 3) := by decide +kernel
theorem dL_law_875 : decode cL_law 875 = .ok (.if_icmp .eq 1330, 3) := by decide +kernel
theorem dL_law_878 : decode cL_law 878 = .ok (.iconst 0, 1) := by decide +kernel
theorem dL_law_880 : decode cL_law 880 = .ok (.aload_n 1, 1) := by decide +kernel
theorem dL_law_881 : decode cL_law 881 = .ok (.aload_n 0, 1) := by decide +kernel
theorem dL_law_882 : decode cL_law 882 = .ok (.iload 4, 2) := by decide +kernel
theorem dL_law_884 : decode cL_law 884 = .ok (.iconst 1, 1) := by decide +kernel
theorem dL_law_885 : decode cL_law 885 = .ok (.iadd, 1) := by decide +kernel
theorem dL_law_886 : decode cL_law 886 = .ok (.iaload, 1) := by decide +kernel
theorem dL_law_887 : decode cL_law 887 = .ok (.aload_n 0, 1) := by decide +kernel
theorem dL_law_888 : decode cL_law 888 = .ok (.iload 4, 2) := by decide +kernel
theorem dL_law_890 : decode cL_law 890 = .ok (.iconst 2, 1) := by decide +kernel
theorem dL_law_891 : decode cL_law 891 = .ok (.iadd, 1) := by decide +kernel
theorem dL_law_892 : decode cL_law 892 = .ok (.iaload, 1) := by decide +kernel
theorem dL_law_893 : decode cL_law 893 = .ok (.aload_n 3, 1) := by decide +kernel
theorem dL_law_894 : decode cL_law 894 = .ok (.invokestatic 161, 3) := by decide +kernel
theorem dL_law_897 : decode cL_law 897 = .ok (.istore 5, 2) := by decide +kernel
theorem dL_law_899 : decode cL_law 899 = .ok (.aload_n 2, 1) := by decide +kernel
theorem dL_law_900 : decode cL_law 900 = .ok (.aload_n 0, 1) := by decide +kernel
theorem dL_law_901 : decode cL_law 901 = .ok (.iload 4, 2) := by decide +kernel
theorem dL_law_903 : decode cL_law 903 = .ok (.iconst 1, 1) := by decide +kernel
theorem dL_law_904 : decode cL_law 904 = .ok (.iadd, 1) := by decide +kernel
theorem dL_law_905 : decode cL_law 905 = .ok (.iaload, 1) := by decide +kernel
theorem dL_law_906 : decode cL_law 906 = .ok (.aload_n 0, 1) := by decide +kernel
theorem dL_law_907 : decode cL_law 907 = .ok (.iload 4, 2) := by decide +kernel
theorem dL_law_909 : decode cL_law 909 = .ok (.iconst 2, 1) := by decide +kernel
theorem dL_law_910 : decode cL_law 910 = .ok (.iadd, 1) := by decide +kernel
theorem dL_law_911 : decode cL_law 911 = .ok (.iaload, 1) := by decide +kernel
theorem dL_law_912 : decode cL_law 912 = .ok (.invokevirtual 163, 3) := by decide +kernel
theorem dL_law_915 : decode cL_law 915 = .ok (.istore 6, 2) := by decide +kernel
theorem dL_law_917 : decode cL_law 917 = .ok (.aload_n 2, 1) := by decide +kernel
theorem dL_law_918 : decode cL_law 918 = .ok (.invokevirtual 109, 3) := by decide +kernel
theorem dL_law_921 : decode cL_law 921 = .ok (.iload 5, 2) := by decide +kernel
theorem dL_law_923 : decode cL_law 923 = .ok (.if_icmp .eq 5, 3) := by decide +kernel
theorem dL_law_926 : decode cL_law 926 = .ok (.iconst 0, 1) := by decide +kernel
theorem dL_law_928 : decode cL_law 928 = .ok (.iload 5, 2) := by decide +kernel
theorem dL_law_930 : decode cL_law 930 = .ok (.ifCond .ne 15, 3) := by decide +kernel
theorem dL_law_933 : decode cL_law 933 = .ok (.aload_n 3, 1) := by decide +kernel
theorem dL_law_934 : decode cL_law 934 = .ok (.iconst 0, 1) := by decide +kernel
theorem dL_law_935 : decode cL_law 935 = .ok (.laload, 1) := by decide +kernel
theorem dL_law_936 : decode cL_law 936 = .ok (.iload 6, 2) := by decide +kernel
theorem dL_law_938 : decode cL_law 938 = .ok (.i2l, 1) := by decide +kernel
theorem dL_law_939 : decode cL_law 939 = .ok (.lcmp, 1) := by decide +kernel
theorem dL_law_940 : decode cL_law 940 = .ok (.ifCond .eq 5, 3) := by decide +kernel
theorem dL_law_943 : decode cL_law 943 = .ok (.iconst 0, 1) := by decide +kernel
theorem dL_law_945 : decode cL_law 945 = .ok (.goto 1260, 3) := by decide +kernel
theorem dL_law_948 : decode cL_law 948 = .ok (.aload_n 1, 1) := by decide +kernel
theorem dL_law_949 : decode cL_law 949 = .ok (.invokevirtual 164, 3) := by decide +kernel
theorem dL_law_952 : decode cL_law 952 = .ok (.aload_n 2, 1) := by decide +kernel
theorem dL_law_953 : decode cL_law 953 = .ok (.invokevirtual 167, 3) := by decide +kernel
theorem dL_law_956 : decode cL_law 956 = .ok (.if_icmp .eq 1249, 3) := by decide +kernel
theorem dL_law_959 : decode cL_law 959 = .ok (.iconst 0, 1) := by decide +kernel
theorem dL_law_961 : decode cL_law 961 = .ok (.aload_n 1, 1) := by decide +kernel
theorem dL_law_962 : decode cL_law 962 = .ok (.aload_n 0, 1) := by decide +kernel
theorem dL_law_963 : decode cL_law 963 = .ok (.iload 4, 2) := by decide +kernel
theorem dL_law_965 : decode cL_law 965 = .ok (.iconst 1, 1) := by decide +kernel
theorem dL_law_966 : decode cL_law 966 = .ok (.iadd, 1) := by decide +kernel
theorem dL_law_967 : decode cL_law 967 = .ok (.iaload, 1) := by decide +kernel
theorem dL_law_968 : decode cL_law 968 = .ok (.aload_n 3, 1) := by decide +kernel
theorem dL_law_969 : decode cL_law 969 = .ok (.invokestatic 168, 3) := by decide +kernel
theorem dL_law_972 : decode cL_law 972 = .ok (.istore 5, 2) := by decide +kernel
theorem dL_law_974 : decode cL_law 974 = .ok (.aload_n 2, 1) := by decide +kernel
theorem dL_law_975 : decode cL_law 975 = .ok (.aload_n 0, 1) := by decide +kernel
theorem dL_law_976 : decode cL_law 976 = .ok (.iload 4, 2) := by decide +kernel
theorem dL_law_978 : decode cL_law 978 = .ok (.iconst 1, 1) := by decide +kernel
theorem dL_law_979 : decode cL_law 979 = .ok (.iadd, 1) := by decide +kernel
theorem dL_law_980 : decode cL_law 980 = .ok (.iaload, 1) := by decide +kernel
theorem dL_law_981 : decode cL_law 981 = .ok (.invokevirtual 170, 3) := by decide +kernel
theorem dL_law_984 : decode cL_law 984 = .ok (.istore 6, 2) := by decide +kernel
theorem dL_law_986 : decode cL_law 986 = .ok (.aload_n 2, 1) := by decide +kernel
theorem dL_law_987 : decode cL_law 987 = .ok (.invokevirtual 109, 3) := by decide +kernel
theorem dL_law_990 : decode cL_law 990 = .ok (.iload 5, 2) := by decide +kernel
theorem dL_law_992 : decode cL_law 992 = .ok (.if_icmp .eq 5, 3) := by decide +kernel
theorem dL_law_995 : decode cL_law 995 = .ok (.iconst 0, 1) := by decide +kernel
theorem dL_law_997 : decode cL_law 997 = .ok (.iload 5, 2) := by decide +kernel
theorem dL_law_999 : decode cL_law 999 = .ok (.ifCond .ne 15, 3) := by decide +kernel
theorem dL_law_1002 : decode cL_law 1002 = .ok (.aload_n 3, 1) := by decide +kernel
theorem dL_law_1003 : decode cL_law 1003 = .ok (.iconst 0, 1) := by decide +kernel
theorem dL_law_1004 : decode cL_law 1004 = .ok (.laload, 1) := by decide +kernel
theorem dL_law_1005 : decode cL_law 1005 = .ok (.iload 6, 2) := by decide +kernel
theorem dL_law_1007 : decode cL_law 1007 = .ok (.i2l, 1) := by decide +kernel
theorem dL_law_1008 : decode cL_law 1008 = .ok (.lcmp, 1) := by decide +kernel
theorem dL_law_1009 : decode cL_law 1009 = .ok (.ifCond .eq 5, 3) := by decide +kernel
theorem dL_law_1012 : decode cL_law 1012 = .ok (.iconst 0, 1) := by decide +kernel
theorem dL_law_1014 : decode cL_law 1014 = .ok (.goto 1191, 3) := by decide +kernel
theorem dL_law_1017 : decode cL_law 1017 = .ok (.aload_n 1, 1) := by decide +kernel
theorem dL_law_1018 : decode cL_law 1018 = .ok (.aload_n 0, 1) := by decide +kernel
theorem dL_law_1019 : decode cL_law 1019 = .ok (.iload 4, 2) := by decide +kernel
theorem dL_law_1021 : decode cL_law 1021 = .ok (.iconst 1, 1) := by decide +kernel
theorem dL_law_1022 : decode cL_law 1022 = .ok (.iadd, 1) := by decide +kernel
theorem dL_law_1023 : decode cL_law 1023 = .ok (.iaload, 1) := by decide +kernel
theorem dL_law_1024 : decode cL_law 1024 = .ok (.aload_n 3, 1) := by decide +kernel
theorem dL_law_1025 : decode cL_law 1025 = .ok (.invokestatic 171, 3) := by decide +kernel
theorem dL_law_1028 : decode cL_law 1028 = .ok (.istore 5, 2) := by decide +kernel
theorem dL_law_1030 : decode cL_law 1030 = .ok (.aload_n 2, 1) := by decide +kernel
theorem dL_law_1031 : decode cL_law 1031 = .ok (.aload_n 0, 1) := by decide +kernel
theorem dL_law_1032 : decode cL_law 1032 = .ok (.iload 4, 2) := by decide +kernel
theorem dL_law_1034 : decode cL_law 1034 = .ok (.iconst 1, 1) := by decide +kernel
theorem dL_law_1035 : decode cL_law 1035 = .ok (.iadd, 1) := by decide +kernel
theorem dL_law_1036 : decode cL_law 1036 = .ok (.iaload, 1) := by decide +kernel
theorem dL_law_1037 : decode cL_law 1037 = .ok (.invokevirtual 173, 3) := by decide +kernel
theorem dL_law_1040 : decode cL_law 1040 = .ok (.istore 6, 2) := by decide +kernel
theorem dL_law_1042 : decode cL_law 1042 = .ok (.aload_n 2, 1) := by decide +kernel
theorem dL_law_1043 : decode cL_law 1043 = .ok (.invokevirtual 109, 3) := by decide +kernel
theorem dL_law_1046 : decode cL_law 1046 = .ok (.iload 5, 2) := by decide +kernel
theorem dL_law_1048 : decode cL_law 1048 = .ok (.if_icmp .eq 5, 3) := by decide +kernel
theorem dL_law_1051 : decode cL_law 1051 = .ok (.iconst 0, 1) := by decide +kernel
theorem dL_law_1053 : decode cL_law 1053 = .ok (.iload 5, 2) := by decide +kernel
theorem dL_law_1055 : decode cL_law 1055 = .ok (.ifCond .ne 15, 3) := by decide +kernel
theorem dL_law_1058 : decode cL_law 1058 = .ok (.aload_n 3, 1) := by decide +kernel
theorem dL_law_1059 : decode cL_law 1059 = .ok (.iconst 0, 1) := by decide +kernel
theorem dL_law_1060 : decode cL_law 1060 = .ok (.laload, 1) := by decide +kernel
theorem dL_law_1061 : decode cL_law 1061 = .ok (.iload 6, 2) := by decide +kernel
theorem dL_law_1063 : decode cL_law 1063 = .ok (.i2l, 1) := by decide +kernel
theorem dL_law_1064 : decode cL_law 1064 = .ok (.lcmp, 1) := by decide +kernel
theorem dL_law_1065 : decode cL_law 1065 = .ok (.ifCond .eq 5, 3) := by decide +kernel
theorem dL_law_1068 : decode cL_law 1068 = .ok (.iconst 0, 1) := by decide +kernel
theorem dL_law_1070 : decode cL_law 1070 = .ok (.goto 1135, 3) := by decide +kernel
theorem dL_law_1073 : decode cL_law 1073 = .ok (.aload_n 1, 1) := by decide +kernel
theorem dL_law_1074 : decode cL_law 1074 = .ok (.aload_n 0, 1) := by decide +kernel
theorem dL_law_1075 : decode cL_law 1075 = .ok (.iload 4, 2) := by decide +kernel
theorem dL_law_1077 : decode cL_law 1077 = .ok (.iconst 1, 1) := by decide +kernel
theorem dL_law_1078 : decode cL_law 1078 = .ok (.iadd, 1) := by decide +kernel
theorem dL_law_1079 : decode cL_law 1079 = .ok (.iaload, 1) := by decide +kernel
theorem dL_law_1080 : decode cL_law 1080 = .ok (.aload_n 3, 1) := by decide +kernel
theorem dL_law_1081 : decode cL_law 1081 = .ok (.invokestatic 174, 3) := by decide +kernel
theorem dL_law_1084 : decode cL_law 1084 = .ok (.istore 5, 2) := by decide +kernel
theorem dL_law_1086 : decode cL_law 1086 = .ok (.aload_n 2, 1) := by decide +kernel
theorem dL_law_1087 : decode cL_law 1087 = .ok (.aload_n 0, 1) := by decide +kernel
theorem dL_law_1088 : decode cL_law 1088 = .ok (.iload 4, 2) := by decide +kernel
theorem dL_law_1090 : decode cL_law 1090 = .ok (.iconst 1, 1) := by decide +kernel
theorem dL_law_1091 : decode cL_law 1091 = .ok (.iadd, 1) := by decide +kernel
theorem dL_law_1092 : decode cL_law 1092 = .ok (.iaload, 1) := by decide +kernel
theorem dL_law_1093 : decode cL_law 1093 = .ok (.invokevirtual 176, 3) := by decide +kernel
theorem dL_law_1096 : decode cL_law 1096 = .ok (.istore 6, 2) := by decide +kernel
theorem dL_law_1098 : decode cL_law 1098 = .ok (.aload_n 2, 1) := by decide +kernel
theorem dL_law_1099 : decode cL_law 1099 = .ok (.invokevirtual 109, 3) := by decide +kernel
theorem dL_law_1102 : decode cL_law 1102 = .ok (.iload 5, 2) := by decide +kernel
theorem dL_law_1104 : decode cL_law 1104 = .ok (.if_icmp .eq 5, 3) := by decide +kernel
theorem dL_law_1107 : decode cL_law 1107 = .ok (.iconst 0, 1) := by decide +kernel
theorem dL_law_1109 : decode cL_law 1109 = .ok (.iload 5, 2) := by decide +kernel
theorem dL_law_1111 : decode cL_law 1111 = .ok (.ifCond .ne 15, 3) := by decide +kernel
theorem dL_law_1114 : decode cL_law 1114 = .ok (.aload_n 3, 1) := by decide +kernel
theorem dL_law_1115 : decode cL_law 1115 = .ok (.iconst 0, 1) := by decide +kernel
theorem dL_law_1116 : decode cL_law 1116 = .ok (.laload, 1) := by decide +kernel
theorem dL_law_1117 : decode cL_law 1117 = .ok (.iload 6, 2) := by decide +kernel
theorem dL_law_1119 : decode cL_law 1119 = .ok (.i2l, 1) := by decide +kernel
theorem dL_law_1120 : decode cL_law 1120 = .ok (.lcmp, 1) := by decide +kernel
theorem dL_law_1121 : decode cL_law 1121 = .ok (.ifCond .eq 5, 3) := by decide +kernel
theorem dL_law_1124 : decode cL_law 1124 = .ok (.iconst 0, 1) := by decide +kernel
theorem dL_law_1126 : decode cL_law 1126 = .ok (.goto 1079, 3) := by decide +kernel
theorem dL_law_1129 : decode cL_law 1129 = .ok (.aload_n 1, 1) := by decide +kernel
theorem dL_law_1130 : decode cL_law 1130 = .ok (.aload_n 0, 1) := by decide +kernel
theorem dL_law_1131 : decode cL_law 1131 = .ok (.iload 4, 2) := by decide +kernel
theorem dL_law_1133 : decode cL_law 1133 = .ok (.iconst 1, 1) := by decide +kernel
theorem dL_law_1134 : decode cL_law 1134 = .ok (.iadd, 1) := by decide +kernel
theorem dL_law_1135 : decode cL_law 1135 = .ok (.iaload, 1) := by decide +kernel
theorem dL_law_1136 : decode cL_law 1136 = .ok (.aload_n 0, 1) := by decide +kernel
theorem dL_law_1137 : decode cL_law 1137 = .ok (.iload 4, 2) := by decide +kernel
theorem dL_law_1139 : decode cL_law 1139 = .ok (.iconst 2, 1) := by decide +kernel
theorem dL_law_1140 : decode cL_law 1140 = .ok (.iadd, 1) := by decide +kernel
theorem dL_law_1141 : decode cL_law 1141 = .ok (.iaload, 1) := by decide +kernel
theorem dL_law_1142 : decode cL_law 1142 = .ok (.aload_n 3, 1) := by decide +kernel
theorem dL_law_1143 : decode cL_law 1143 = .ok (.invokestatic 177, 3) := by decide +kernel
theorem dL_law_1146 : decode cL_law 1146 = .ok (.istore 5, 2) := by decide +kernel
theorem dL_law_1148 : decode cL_law 1148 = .ok (.aload_n 2, 1) := by decide +kernel
theorem dL_law_1149 : decode cL_law 1149 = .ok (.aload_n 0, 1) := by decide +kernel
theorem dL_law_1150 : decode cL_law 1150 = .ok (.iload 4, 2) := by decide +kernel
theorem dL_law_1152 : decode cL_law 1152 = .ok (.iconst 1, 1) := by decide +kernel
theorem dL_law_1153 : decode cL_law 1153 = .ok (.iadd, 1) := by decide +kernel
theorem dL_law_1154 : decode cL_law 1154 = .ok (.iaload, 1) := by decide +kernel
theorem dL_law_1155 : decode cL_law 1155 = .ok (.aload_n 0, 1) := by decide +kernel
theorem dL_law_1156 : decode cL_law 1156 = .ok (.iload 4, 2) := by decide +kernel
theorem dL_law_1158 : decode cL_law 1158 = .ok (.iconst 2, 1) := by decide +kernel
theorem dL_law_1159 : decode cL_law 1159 = .ok (.iadd, 1) := by decide +kernel
theorem dL_law_1160 : decode cL_law 1160 = .ok (.iaload, 1) := by decide +kernel
theorem dL_law_1161 : decode cL_law 1161 = .ok (.invokevirtual 179, 3) := by decide +kernel
theorem dL_law_1164 : decode cL_law 1164 = .ok (.istore 6, 2) := by decide +kernel
theorem dL_law_1166 : decode cL_law 1166 = .ok (.aload_n 2, 1) := by decide +kernel
theorem dL_law_1167 : decode cL_law 1167 = .ok (.invokevirtual 109, 3) := by decide +kernel
theorem dL_law_1170 : decode cL_law 1170 = .ok (.iload 5, 2) := by decide +kernel
theorem dL_law_1172 : decode cL_law 1172 = .ok (.if_icmp .eq 5, 3) := by decide +kernel
theorem dL_law_1175 : decode cL_law 1175 = .ok (.iconst 0, 1) := by decide +kernel
theorem dL_law_1177 : decode cL_law 1177 = .ok (.iload 5, 2) := by decide +kernel
theorem dL_law_1179 : decode cL_law 1179 = .ok (.ifCond .ne 15, 3) := by decide +kernel
theorem dL_law_1182 : decode cL_law 1182 = .ok (.aload_n 3, 1) := by decide +kernel
theorem dL_law_1183 : decode cL_law 1183 = .ok (.iconst 0, 1) := by decide +kernel
theorem dL_law_1184 : decode cL_law 1184 = .ok (.laload, 1) := by decide +kernel
theorem dL_law_1185 : decode cL_law 1185 = .ok (.iload 6, 2) := by decide +kernel
theorem dL_law_1187 : decode cL_law 1187 = .ok (.i2l, 1) := by decide +kernel
theorem dL_law_1188 : decode cL_law 1188 = .ok (.lcmp, 1) := by decide +kernel
theorem dL_law_1189 : decode cL_law 1189 = .ok (.ifCond .eq 5, 3) := by decide +kernel
theorem dL_law_1192 : decode cL_law 1192 = .ok (.iconst 0, 1) := by decide +kernel
theorem dL_law_1194 : decode cL_law 1194 = .ok (.goto 1011, 3) := by decide +kernel
theorem dL_law_1197 : decode cL_law 1197 = .ok (.aload_n 1, 1) := by decide +kernel
theorem dL_law_1198 : decode cL_law 1198 = .ok (.invokevirtual 180, 3) := by decide +kernel
theorem dL_law_1201 : decode cL_law 1201 = .ok (.aload_n 2, 1) := by decide +kernel
theorem dL_law_1202 : decode cL_law 1202 = .ok (.invokevirtual 183, 3) := by decide +kernel
theorem dL_law_1205 : decode cL_law 1205 = .ok (.if_icmp .eq 1000, 3) := by decide +kernel
theorem dL_law_1208 : decode cL_law 1208 = .ok (.iconst 0, 1) := by decide +kernel
theorem dL_law_1210 : decode cL_law 1210 = .ok (.aload_n 1, 1) := by decide +kernel
theorem dL_law_1211 : decode cL_law 1211 = .ok (.aload_n 0, 1) := by decide +kernel
theorem dL_law_1212 : decode cL_law 1212 = .ok (.iload 4, 2) := by decide +kernel
theorem dL_law_1214 : decode cL_law 1214 = .ok (.iconst 1, 1) := by decide +kernel
theorem dL_law_1215 : decode cL_law 1215 = .ok (.iadd, 1) := by decide +kernel
theorem dL_law_1216 : decode cL_law 1216 = .ok (.iaload, 1) := by decide +kernel
theorem dL_law_1217 : decode cL_law 1217 = .ok (.aload_n 3, 1) := by decide +kernel
theorem dL_law_1218 : decode cL_law 1218 = .ok (.invokestatic 184, 3) := by decide +kernel
theorem dL_law_1221 : decode cL_law 1221 = .ok (.istore 5, 2) := by decide +kernel
theorem dL_law_1223 : decode cL_law 1223 = .ok (.aload_n 2, 1) := by decide +kernel
theorem dL_law_1224 : decode cL_law 1224 = .ok (.aload_n 0, 1) := by decide +kernel
theorem dL_law_1225 : decode cL_law 1225 = .ok (.iload 4, 2) := by decide +kernel
theorem dL_law_1227 : decode cL_law 1227 = .ok (.iconst 1, 1) := by decide +kernel
theorem dL_law_1228 : decode cL_law 1228 = .ok (.iadd, 1) := by decide +kernel
theorem dL_law_1229 : decode cL_law 1229 = .ok (.iaload, 1) := by decide +kernel
theorem dL_law_1230 : decode cL_law 1230 = .ok (.invokevirtual 186, 3) := by decide +kernel
theorem dL_law_1233 : decode cL_law 1233 = .ok (.istore 6, 2) := by decide +kernel
theorem dL_law_1235 : decode cL_law 1235 = .ok (.aload_n 2, 1) := by decide +kernel
theorem dL_law_1236 : decode cL_law 1236 = .ok (.invokevirtual 109, 3) := by decide +kernel
theorem dL_law_1239 : decode cL_law 1239 = .ok (.iload 5, 2) := by decide +kernel
theorem dL_law_1241 : decode cL_law 1241 = .ok (.if_icmp .eq 5, 3) := by decide +kernel
theorem dL_law_1244 : decode cL_law 1244 = .ok (.iconst 0, 1) := by decide +kernel
theorem dL_law_1246 : decode cL_law 1246 = .ok (.iload 5, 2) := by decide +kernel
theorem dL_law_1248 : decode cL_law 1248 = .ok (.ifCond .ne 15, 3) := by decide +kernel
theorem dL_law_1251 : decode cL_law 1251 = .ok (.aload_n 3, 1) := by decide +kernel
theorem dL_law_1252 : decode cL_law 1252 = .ok (.iconst 0, 1) := by decide +kernel
theorem dL_law_1253 : decode cL_law 1253 = .ok (.laload, 1) := by decide +kernel
theorem dL_law_1254 : decode cL_law 1254 = .ok (.iload 6, 2) := by decide +kernel
theorem dL_law_1256 : decode cL_law 1256 = .ok (.i2l, 1) := by decide +kernel
theorem dL_law_1257 : decode cL_law 1257 = .ok (.lcmp, 1) := by decide +kernel
theorem dL_law_1258 : decode cL_law 1258 = .ok (.ifCond .eq 5, 3) := by decide +kernel
theorem dL_law_1261 : decode cL_law 1261 = .ok (.iconst 0, 1) := by decide +kernel
theorem dL_law_1263 : decode cL_law 1263 = .ok (.goto 942, 3) := by decide +kernel
theorem dL_law_1266 : decode cL_law 1266 = .ok (.aload_n 1, 1) := by decide +kernel
theorem dL_law_1267 : decode cL_law 1267 = .ok (.aload_n 0, 1) := by decide +kernel
theorem dL_law_1268 : decode cL_law 1268 = .ok (.iload 4, 2) := by decide +kernel
theorem dL_law_1270 : decode cL_law 1270 = .ok (.iconst 1, 1) := by decide +kernel
theorem dL_law_1271 : decode cL_law 1271 = .ok (.iadd, 1) := by decide +kernel
theorem dL_law_1272 : decode cL_law 1272 = .ok (.iaload, 1) := by decide +kernel
theorem dL_law_1273 : decode cL_law 1273 = .ok (.aload_n 3, 1) := by decide +kernel
theorem dL_law_1274 : decode cL_law 1274 = .ok (.invokestatic 187, 3) := by decide +kernel
theorem dL_law_1277 : decode cL_law 1277 = .ok (.istore 5, 2) := by decide +kernel
theorem dL_law_1279 : decode cL_law 1279 = .ok (.aload_n 2, 1) := by decide +kernel
theorem dL_law_1280 : decode cL_law 1280 = .ok (.aload_n 0, 1) := by decide +kernel
theorem dL_law_1281 : decode cL_law 1281 = .ok (.iload 4, 2) := by decide +kernel
theorem dL_law_1283 : decode cL_law 1283 = .ok (.iconst 1, 1) := by decide +kernel
theorem dL_law_1284 : decode cL_law 1284 = .ok (.iadd, 1) := by decide +kernel
theorem dL_law_1285 : decode cL_law 1285 = .ok (.iaload, 1) := by decide +kernel
theorem dL_law_1286 : decode cL_law 1286 = .ok (.invokevirtual 189, 3) := by decide +kernel
theorem dL_law_1289 : decode cL_law 1289 = .ok (.istore 6, 2) := by decide +kernel
theorem dL_law_1291 : decode cL_law 1291 = .ok (.aload_n 2, 1) := by decide +kernel
theorem dL_law_1292 : decode cL_law 1292 = .ok (.invokevirtual 109, 3) := by decide +kernel
theorem dL_law_1295 : decode cL_law 1295 = .ok (.iload 5, 2) := by decide +kernel
theorem dL_law_1297 : decode cL_law 1297 = .ok (.if_icmp .eq 5, 3) := by decide +kernel
theorem dL_law_1300 : decode cL_law 1300 = .ok (.iconst 0, 1) := by decide +kernel
theorem dL_law_1302 : decode cL_law 1302 = .ok (.iload 5, 2) := by decide +kernel
theorem dL_law_1304 : decode cL_law 1304 = .ok (.ifCond .ne 15, 3) := by decide +kernel
theorem dL_law_1307 : decode cL_law 1307 = .ok (.aload_n 3, 1) := by decide +kernel
theorem dL_law_1308 : decode cL_law 1308 = .ok (.iconst 0, 1) := by decide +kernel
theorem dL_law_1309 : decode cL_law 1309 = .ok (.laload, 1) := by decide +kernel
theorem dL_law_1310 : decode cL_law 1310 = .ok (.iload 6, 2) := by decide +kernel
theorem dL_law_1312 : decode cL_law 1312 = .ok (.i2l, 1) := by decide +kernel
theorem dL_law_1313 : decode cL_law 1313 = .ok (.lcmp, 1) := by decide +kernel
theorem dL_law_1314 : decode cL_law 1314 = .ok (.ifCond .eq 5, 3) := by decide +kernel
theorem dL_law_1317 : decode cL_law 1317 = .ok (.iconst 0, 1) := by decide +kernel
theorem dL_law_1319 : decode cL_law 1319 = .ok (.goto 886, 3) := by decide +kernel
theorem dL_law_1322 : decode cL_law 1322 = .ok (.aload_n 1, 1) := by decide +kernel
theorem dL_law_1323 : decode cL_law 1323 = .ok (.aload_n 0, 1) := by decide +kernel
theorem dL_law_1324 : decode cL_law 1324 = .ok (.iload 4, 2) := by decide +kernel
theorem dL_law_1326 : decode cL_law 1326 = .ok (.iconst 1, 1) := by decide +kernel
theorem dL_law_1327 : decode cL_law 1327 = .ok (.iadd, 1) := by decide +kernel
theorem dL_law_1328 : decode cL_law 1328 = .ok (.iaload, 1) := by decide +kernel
theorem dL_law_1329 : decode cL_law 1329 = .ok (.aload_n 0, 1) := by decide +kernel
theorem dL_law_1330 : decode cL_law 1330 = .ok (.iload 4, 2) := by decide +kernel
theorem dL_law_1332 : decode cL_law 1332 = .ok (.iconst 2, 1) := by decide +kernel
theorem dL_law_1333 : decode cL_law 1333 = .ok (.iadd, 1) := by decide +kernel
theorem dL_law_1334 : decode cL_law 1334 = .ok (.iaload, 1) := by decide +kernel
theorem dL_law_1335 : decode cL_law 1335 = .ok (.aload_n 0, 1) := by decide +kernel
theorem dL_law_1336 : decode cL_law 1336 = .ok (.iload 4, 2) := by decide +kernel
theorem dL_law_1338 : decode cL_law 1338 = .ok (.iconst 3, 1) := by decide +kernel
theorem dL_law_1339 : decode cL_law 1339 = .ok (.iadd, 1) := by decide +kernel
theorem dL_law_1340 : decode cL_law 1340 = .ok (.iaload, 1) := by decide +kernel
theorem dL_law_1341 : decode cL_law 1341 = .ok (.aload_n 0, 1) := by decide +kernel
theorem dL_law_1342 : decode cL_law 1342 = .ok (.iload 4, 2) := by decide +kernel
theorem dL_law_1344 : decode cL_law 1344 = .ok (.iconst 4, 1) := by decide +kernel
theorem dL_law_1345 : decode cL_law 1345 = .ok (.iadd, 1) := by decide +kernel
theorem dL_law_1346 : decode cL_law 1346 = .ok (.iaload, 1) := by decide +kernel
theorem dL_law_1347 : decode cL_law 1347 = .ok (.aload_n 0, 1) := by decide +kernel
theorem dL_law_1348 : decode cL_law 1348 = .ok (.iload 4, 2) := by decide +kernel
theorem dL_law_1350 : decode cL_law 1350 = .ok (.iconst 5, 1) := by decide +kernel
theorem dL_law_1351 : decode cL_law 1351 = .ok (.iadd, 1) := by decide +kernel
theorem dL_law_1352 : decode cL_law 1352 = .ok (.iaload, 1) := by decide +kernel
theorem dL_law_1353 : decode cL_law 1353 = .ok (.aload_n 3, 1) := by decide +kernel
theorem dL_law_1354 : decode cL_law 1354 = .ok (.invokestatic 190, 3) := by decide +kernel
theorem dL_law_1357 : decode cL_law 1357 = .ok (.istore 5, 2) := by decide +kernel
theorem dL_law_1359 : decode cL_law 1359 = .ok (.aload_n 2, 1) := by decide +kernel
theorem dL_law_1360 : decode cL_law 1360 = .ok (.aload_n 0, 1) := by decide +kernel
theorem dL_law_1361 : decode cL_law 1361 = .ok (.iload 4, 2) := by decide +kernel
theorem dL_law_1363 : decode cL_law 1363 = .ok (.iconst 1, 1) := by decide +kernel
theorem dL_law_1364 : decode cL_law 1364 = .ok (.iadd, 1) := by decide +kernel
theorem dL_law_1365 : decode cL_law 1365 = .ok (.iaload, 1) := by decide +kernel
theorem dL_law_1366 : decode cL_law 1366 = .ok (.aload_n 0, 1) := by decide +kernel
theorem dL_law_1367 : decode cL_law 1367 = .ok (.iload 4, 2) := by decide +kernel
theorem dL_law_1369 : decode cL_law 1369 = .ok (.iconst 2, 1) := by decide +kernel
theorem dL_law_1370 : decode cL_law 1370 = .ok (.iadd, 1) := by decide +kernel
theorem dL_law_1371 : decode cL_law 1371 = .ok (.iaload, 1) := by decide +kernel
theorem dL_law_1372 : decode cL_law 1372 = .ok (.aload_n 0, 1) := by decide +kernel
theorem dL_law_1373 : decode cL_law 1373 = .ok (.iload 4, 2) := by decide +kernel
theorem dL_law_1375 : decode cL_law 1375 = .ok (.iconst 3, 1) := by decide +kernel
theorem dL_law_1376 : decode cL_law 1376 = .ok (.iadd, 1) := by decide +kernel
theorem dL_law_1377 : decode cL_law 1377 = .ok (.iaload, 1) := by decide +kernel
theorem dL_law_1378 : decode cL_law 1378 = .ok (.aload_n 0, 1) := by decide +kernel
theorem dL_law_1379 : decode cL_law 1379 = .ok (.iload 4, 2) := by decide +kernel
theorem dL_law_1381 : decode cL_law 1381 = .ok (.iconst 4, 1) := by decide +kernel
theorem dL_law_1382 : decode cL_law 1382 = .ok (.iadd, 1) := by decide +kernel
theorem dL_law_1383 : decode cL_law 1383 = .ok (.iaload, 1) := by decide +kernel
theorem dL_law_1384 : decode cL_law 1384 = .ok (.aload_n 0, 1) := by decide +kernel
theorem dL_law_1385 : decode cL_law 1385 = .ok (.iload 4, 2) := by decide +kernel
theorem dL_law_1387 : decode cL_law 1387 = .ok (.iconst 5, 1) := by decide +kernel
theorem dL_law_1388 : decode cL_law 1388 = .ok (.iadd, 1) := by decide +kernel
theorem dL_law_1389 : decode cL_law 1389 = .ok (.iaload, 1) := by decide +kernel
theorem dL_law_1390 : decode cL_law 1390 = .ok (.invokevirtual 193, 3) := by decide +kernel
theorem dL_law_1393 : decode cL_law 1393 = .ok (.istore 6, 2) := by decide +kernel
theorem dL_law_1395 : decode cL_law 1395 = .ok (.aload_n 2, 1) := by decide +kernel
theorem dL_law_1396 : decode cL_law 1396 = .ok (.invokevirtual 109, 3) := by decide +kernel
theorem dL_law_1399 : decode cL_law 1399 = .ok (.iload 5, 2) := by decide +kernel
theorem dL_law_1401 : decode cL_law 1401 = .ok (.if_icmp .eq 5, 3) := by decide +kernel
theorem dL_law_1404 : decode cL_law 1404 = .ok (.iconst 0, 1) := by decide +kernel
theorem dL_law_1406 : decode cL_law 1406 = .ok (.iload 5, 2) := by decide +kernel
theorem dL_law_1408 : decode cL_law 1408 = .ok (.ifCond .ne 15, 3) := by decide +kernel
theorem dL_law_1411 : decode cL_law 1411 = .ok (.aload_n 3, 1) := by decide +kernel
theorem dL_law_1412 : decode cL_law 1412 = .ok (.iconst 0, 1) := by decide +kernel
theorem dL_law_1413 : decode cL_law 1413 = .ok (.laload, 1) := by decide +kernel
theorem dL_law_1414 : decode cL_law 1414 = .ok (.iload 6, 2) := by decide +kernel
theorem dL_law_1416 : decode cL_law 1416 = .ok (.i2l, 1) := by decide +kernel
theorem dL_law_1417 : decode cL_law 1417 = .ok (.lcmp, 1) := by decide +kernel
theorem dL_law_1418 : decode cL_law 1418 = .ok (.ifCond .eq 5, 3) := by decide +kernel
theorem dL_law_1421 : decode cL_law 1421 = .ok (.iconst 0, 1) := by decide +kernel
theorem dL_law_1423 : decode cL_law 1423 = .ok (.goto 782, 3) := by decide +kernel
theorem dL_law_1426 : decode cL_law 1426 = .ok (.aload_n 1, 1) := by decide +kernel
theorem dL_law_1427 : decode cL_law 1427 = .ok (.aload_n 0, 1) := by decide +kernel
theorem dL_law_1428 : decode cL_law 1428 = .ok (.iload 4, 2) := by decide +kernel
theorem dL_law_1430 : decode cL_law 1430 = .ok (.iconst 1, 1) := by decide +kernel
theorem dL_law_1431 : decode cL_law 1431 = .ok (.iadd, 1) := by decide +kernel
theorem dL_law_1432 : decode cL_law 1432 = .ok (.iaload, 1) := by decide +kernel
theorem dL_law_1433 : decode cL_law 1433 = .ok (.aload_n 0, 1) := by decide +kernel
theorem dL_law_1434 : decode cL_law 1434 = .ok (.iload 4, 2) := by decide +kernel
theorem dL_law_1436 : decode cL_law 1436 = .ok (.iconst 2, 1) := by decide +kernel
theorem dL_law_1437 : decode cL_law 1437 = .ok (.iadd, 1) := by decide +kernel
theorem dL_law_1438 : decode cL_law 1438 = .ok (.iaload, 1) := by decide +kernel
theorem dL_law_1439 : decode cL_law 1439 = .ok (.ifCond .eq 7, 3) := by decide +kernel
theorem dL_law_1442 : decode cL_law 1442 = .ok (.iconst 1, 1) := by decide +kernel
theorem dL_law_1443 : decode cL_law 1443 = .ok (.goto 4, 3) := by decide +kernel
theorem dL_law_1446 : decode cL_law 1446 = .ok (.iconst 0, 1) := by decide +kernel
theorem dL_law_1447 : decode cL_law 1447 = .ok (.aload_n 3, 1) := by decide +kernel
theorem dL_law_1448 : decode cL_law 1448 = .ok (.invokestatic 194, 3) := by decide +kernel
theorem dL_law_1451 : decode cL_law 1451 = .ok (.istore 5, 2) := by decide +kernel
theorem dL_law_1453 : decode cL_law 1453 = .ok (.aload_n 2, 1) := by decide +kernel
theorem dL_law_1454 : decode cL_law 1454 = .ok (.aload_n 0, 1) := by decide +kernel
theorem dL_law_1455 : decode cL_law 1455 = .ok (.iload 4, 2) := by decide +kernel
theorem dL_law_1457 : decode cL_law 1457 = .ok (.iconst 1, 1) := by decide +kernel
theorem dL_law_1458 : decode cL_law 1458 = .ok (.iadd, 1) := by decide +kernel
theorem dL_law_1459 : decode cL_law 1459 = .ok (.iaload, 1) := by decide +kernel
theorem dL_law_1460 : decode cL_law 1460 = .ok (.aload_n 0, 1) := by decide +kernel
theorem dL_law_1461 : decode cL_law 1461 = .ok (.iload 4, 2) := by decide +kernel
theorem dL_law_1463 : decode cL_law 1463 = .ok (.iconst 2, 1) := by decide +kernel
theorem dL_law_1464 : decode cL_law 1464 = .ok (.iadd, 1) := by decide +kernel
theorem dL_law_1465 : decode cL_law 1465 = .ok (.iaload, 1) := by decide +kernel
theorem dL_law_1466 : decode cL_law 1466 = .ok (.ifCond .eq 7, 3) := by decide +kernel
theorem dL_law_1469 : decode cL_law 1469 = .ok (.iconst 1, 1) := by decide +kernel
theorem dL_law_1470 : decode cL_law 1470 = .ok (.goto 4, 3) := by decide +kernel
theorem dL_law_1473 : decode cL_law 1473 = .ok (.iconst 0, 1) := by decide +kernel
theorem dL_law_1474 : decode cL_law 1474 = .ok (.invokevirtual 197, 3) := by decide +kernel
theorem dL_law_1477 : decode cL_law 1477 = .ok (.istore 6, 2) := by decide +kernel
theorem dL_law_1479 : decode cL_law 1479 = .ok (.aload_n 2, 1) := by decide +kernel
theorem dL_law_1480 : decode cL_law 1480 = .ok (.invokevirtual 109, 3) := by decide +kernel
theorem dL_law_1483 : decode cL_law 1483 = .ok (.iload 5, 2) := by decide +kernel
theorem dL_law_1485 : decode cL_law 1485 = .ok (.if_icmp .eq 5, 3) := by decide +kernel
theorem dL_law_1488 : decode cL_law 1488 = .ok (.iconst 0, 1) := by decide +kernel
theorem dL_law_1490 : decode cL_law 1490 = .ok (.iload 5, 2) := by decide +kernel
theorem dL_law_1492 : decode cL_law 1492 = .ok (.ifCond .ne 15, 3) := by decide +kernel
theorem dL_law_1495 : decode cL_law 1495 = .ok (.aload_n 3, 1) := by decide +kernel
theorem dL_law_1496 : decode cL_law 1496 = .ok (.iconst 0, 1) := by decide +kernel
theorem dL_law_1497 : decode cL_law 1497 = .ok (.laload, 1) := by decide +kernel
theorem dL_law_1498 : decode cL_law 1498 = .ok (.iload 6, 2) := by decide +kernel
theorem dL_law_1500 : decode cL_law 1500 = .ok (.i2l, 1) := by decide +kernel
theorem dL_law_1501 : decode cL_law 1501 = .ok (.lcmp, 1) := by decide +kernel
theorem dL_law_1502 : decode cL_law 1502 = .ok (.ifCond .eq 5, 3) := by decide +kernel
theorem dL_law_1505 : decode cL_law 1505 = .ok (.iconst 0, 1) := by decide +kernel
theorem dL_law_1507 : decode cL_law 1507 = .ok (.goto 698, 3) := by decide +kernel
theorem dL_law_1510 : decode cL_law 1510 = .ok (.aload_n 1, 1) := by decide +kernel
theorem dL_law_1511 : decode cL_law 1511 = .ok (.aload_n 0, 1) := by decide +kernel
theorem dL_law_1512 : decode cL_law 1512 = .ok (.iload 4, 2) := by decide +kernel
theorem dL_law_1514 : decode cL_law 1514 = .ok (.iconst 1, 1) := by decide +kernel
theorem dL_law_1515 : decode cL_law 1515 = .ok (.iadd, 1) := by decide +kernel
theorem dL_law_1516 : decode cL_law 1516 = .ok (.iaload, 1) := by decide +kernel
theorem dL_law_1517 : decode cL_law 1517 = .ok (.aload_n 3, 1) := by decide +kernel
theorem dL_law_1518 : decode cL_law 1518 = .ok (.invokestatic 198, 3) := by decide +kernel
theorem dL_law_1521 : decode cL_law 1521 = .ok (.istore 5, 2) := by decide +kernel
theorem dL_law_1523 : decode cL_law 1523 = .ok (.aload_n 2, 1) := by decide +kernel
theorem dL_law_1524 : decode cL_law 1524 = .ok (.aload_n 0, 1) := by decide +kernel
theorem dL_law_1525 : decode cL_law 1525 = .ok (.iload 4, 2) := by decide +kernel
theorem dL_law_1527 : decode cL_law 1527 = .ok (.iconst 1, 1) := by decide +kernel
theorem dL_law_1528 : decode cL_law 1528 = .ok (.iadd, 1) := by decide +kernel
theorem dL_law_1529 : decode cL_law 1529 = .ok (.iaload, 1) := by decide +kernel
theorem dL_law_1530 : decode cL_law 1530 = .ok (.invokevirtual 200, 3) := by decide +kernel
theorem dL_law_1533 : decode cL_law 1533 = .ok (.istore 6, 2) := by decide +kernel
theorem dL_law_1535 : decode cL_law 1535 = .ok (.aload_n 2, 1) := by decide +kernel
theorem dL_law_1536 : decode cL_law 1536 = .ok (.invokevirtual 109, 3) := by decide +kernel
theorem dL_law_1539 : decode cL_law 1539 = .ok (.iload 5, 2) := by decide +kernel
theorem dL_law_1541 : decode cL_law 1541 = .ok (.if_icmp .eq 5, 3) := by decide +kernel
theorem dL_law_1544 : decode cL_law 1544 = .ok (.iconst 0, 1) := by decide +kernel
theorem dL_law_1546 : decode cL_law 1546 = .ok (.iload 5, 2) := by decide +kernel
theorem dL_law_1548 : decode cL_law 1548 = .ok (.ifCond .ne 15, 3) := by decide +kernel
theorem dL_law_1551 : decode cL_law 1551 = .ok (.aload_n 3, 1) := by decide +kernel
theorem dL_law_1552 : decode cL_law 1552 = .ok (.iconst 0, 1) := by decide +kernel
theorem dL_law_1553 : decode cL_law 1553 = .ok (.laload, 1) := by decide +kernel
theorem dL_law_1554 : decode cL_law 1554 = .ok (.iload 6, 2) := by decide +kernel
theorem dL_law_1556 : decode cL_law 1556 = .ok (.i2l, 1) := by decide +kernel
theorem dL_law_1557 : decode cL_law 1557 = .ok (.lcmp, 1) := by decide +kernel
theorem dL_law_1558 : decode cL_law 1558 = .ok (.ifCond .eq 5, 3) := by decide +kernel
theorem dL_law_1561 : decode cL_law 1561 = .ok (.iconst 0, 1) := by decide +kernel
theorem dL_law_1563 : decode cL_law 1563 = .ok (.goto 642, 3) := by decide +kernel
theorem dL_law_1566 : decode cL_law 1566 = .ok (.aload_n 1, 1) := by decide +kernel
theorem dL_law_1567 : decode cL_law 1567 = .ok (.aload_n 0, 1) := by decide +kernel
theorem dL_law_1568 : decode cL_law 1568 = .ok (.iload 4, 2) := by decide +kernel
theorem dL_law_1570 : decode cL_law 1570 = .ok (.iconst 1, 1) := by decide +kernel
theorem dL_law_1571 : decode cL_law 1571 = .ok (.iadd, 1) := by decide +kernel
theorem dL_law_1572 : decode cL_law 1572 = .ok (.iaload, 1) := by decide +kernel
theorem dL_law_1573 : decode cL_law 1573 = .ok (.invokevirtual 201, 3) := by decide +kernel
theorem dL_law_1576 : decode cL_law 1576 = .ok (.aload_n 2, 1) := by decide +kernel
theorem dL_law_1577 : decode cL_law 1577 = .ok (.aload_n 0, 1) := by decide +kernel
theorem dL_law_1578 : decode cL_law 1578 = .ok (.iload 4, 2) := by decide +kernel
theorem dL_law_1580 : decode cL_law 1580 = .ok (.iconst 1, 1) := by decide +kernel
theorem dL_law_1581 : decode cL_law 1581 = .ok (.iadd, 1) := by decide +kernel
theorem dL_law_1582 : decode cL_law 1582 = .ok (.iaload, 1) := by decide +kernel
theorem dL_law_1583 : decode cL_law 1583 = .ok (.invokevirtual 204, 3) := by decide +kernel
theorem dL_law_1586 : decode cL_law 1586 = .ok (.if_icmp .eq 619, 3) := by decide +kernel
theorem dL_law_1589 : decode cL_law 1589 = .ok (.iconst 0, 1) := by decide +kernel
theorem dL_law_1591 : decode cL_law 1591 = .ok (.aload_n 1, 1) := by decide +kernel
theorem dL_law_1592 : decode cL_law 1592 = .ok (.aload_n 0, 1) := by decide +kernel
theorem dL_law_1593 : decode cL_law 1593 = .ok (.iload 4, 2) := by decide +kernel
theorem dL_law_1595 : decode cL_law 1595 = .ok (.iconst 1, 1) := by decide +kernel
theorem dL_law_1596 : decode cL_law 1596 = .ok (.iadd, 1) := by decide +kernel
theorem dL_law_1597 : decode cL_law 1597 = .ok (.iaload, 1) := by decide +kernel
theorem dL_law_1598 : decode cL_law 1598 = .ok (.aload_n 0, 1) := by decide +kernel
theorem dL_law_1599 : decode cL_law 1599 = .ok (.iload 4, 2) := by decide +kernel
theorem dL_law_1601 : decode cL_law 1601 = .ok (.iconst 2, 1) := by decide +kernel
theorem dL_law_1602 : decode cL_law 1602 = .ok (.iadd, 1) := by decide +kernel
theorem dL_law_1603 : decode cL_law 1603 = .ok (.iaload, 1) := by decide +kernel
theorem dL_law_1604 : decode cL_law 1604 = .ok (.aload_n 3, 1) := by decide +kernel
theorem dL_law_1605 : decode cL_law 1605 = .ok (.invokestatic 205, 3) := by decide +kernel
theorem dL_law_1608 : decode cL_law 1608 = .ok (.istore 5, 2) := by decide +kernel
theorem dL_law_1610 : decode cL_law 1610 = .ok (.aload_n 2, 1) := by decide +kernel
theorem dL_law_1611 : decode cL_law 1611 = .ok (.aload_n 0, 1) := by decide +kernel
theorem dL_law_1612 : decode cL_law 1612 = .ok (.iload 4, 2) := by decide +kernel
theorem dL_law_1614 : decode cL_law 1614 = .ok (.iconst 1, 1) := by decide +kernel
theorem dL_law_1615 : decode cL_law 1615 = .ok (.iadd, 1) := by decide +kernel
theorem dL_law_1616 : decode cL_law 1616 = .ok (.iaload, 1) := by decide +kernel
theorem dL_law_1617 : decode cL_law 1617 = .ok (.aload_n 0, 1) := by decide +kernel
theorem dL_law_1618 : decode cL_law 1618 = .ok (.iload 4, 2) := by decide +kernel
theorem dL_law_1620 : decode cL_law 1620 = .ok (.iconst 2, 1) := by decide +kernel
theorem dL_law_1621 : decode cL_law 1621 = .ok (.iadd, 1) := by decide +kernel
theorem dL_law_1622 : decode cL_law 1622 = .ok (.iaload, 1) := by decide +kernel
theorem dL_law_1623 : decode cL_law 1623 = .ok (.invokevirtual 207, 3) := by decide +kernel
theorem dL_law_1626 : decode cL_law 1626 = .ok (.istore 6, 2) := by decide +kernel
theorem dL_law_1628 : decode cL_law 1628 = .ok (.aload_n 2, 1) := by decide +kernel
theorem dL_law_1629 : decode cL_law 1629 = .ok (.invokevirtual 109, 3) := by decide +kernel
theorem dL_law_1632 : decode cL_law 1632 = .ok (.iload 5, 2) := by decide +kernel
theorem dL_law_1634 : decode cL_law 1634 = .ok (.if_icmp .eq 5, 3) := by decide +kernel
theorem dL_law_1637 : decode cL_law 1637 = .ok (.iconst 0, 1) := by decide +kernel
theorem dL_law_1639 : decode cL_law 1639 = .ok (.iload 5, 2) := by decide +kernel
theorem dL_law_1641 : decode cL_law 1641 = .ok (.ifCond .ne 15, 3) := by decide +kernel
theorem dL_law_1644 : decode cL_law 1644 = .ok (.aload_n 3, 1) := by decide +kernel
theorem dL_law_1645 : decode cL_law 1645 = .ok (.iconst 0, 1) := by decide +kernel
theorem dL_law_1646 : decode cL_law 1646 = .ok (.laload, 1) := by decide +kernel
theorem dL_law_1647 : decode cL_law 1647 = .ok (.iload 6, 2) := by decide +kernel
theorem dL_law_1649 : decode cL_law 1649 = .ok (.i2l, 1) := by decide +kernel
theorem dL_law_1650 : decode cL_law 1650 = .ok (.lcmp, 1) := by decide +kernel
theorem dL_law_1651 : decode cL_law 1651 = .ok (.ifCond .eq 5, 3) := by decide +kernel
theorem dL_law_1654 : decode cL_law 1654 = .ok (.iconst 0, 1) := by decide +kernel
theorem dL_law_1656 : decode cL_law 1656 = .ok (.goto 549, 3) := by decide +kernel
theorem dL_law_1659 : decode cL_law 1659 = .ok (.aload_n 1, 1) := by decide +kernel
theorem dL_law_1660 : decode cL_law 1660 = .ok (.aload_n 0, 1) := by decide +kernel
theorem dL_law_1661 : decode cL_law 1661 = .ok (.iload 4, 2) := by decide +kernel
theorem dL_law_1663 : decode cL_law 1663 = .ok (.iconst 1, 1) := by decide +kernel
theorem dL_law_1664 : decode cL_law 1664 = .ok (.iadd, 1) := by decide +kernel
theorem dL_law_1665 : decode cL_law 1665 = .ok (.iaload, 1) := by decide +kernel
theorem dL_law_1666 : decode cL_law 1666 = .ok (.aload_n 3, 1) := by decide +kernel
theorem dL_law_1667 : decode cL_law 1667 = .ok (.invokestatic 208, 3) := by decide +kernel
theorem dL_law_1670 : decode cL_law 1670 = .ok (.istore 5, 2) := by decide +kernel
theorem dL_law_1672 : decode cL_law 1672 = .ok (.aload_n 2, 1) := by decide +kernel
theorem dL_law_1673 : decode cL_law 1673 = .ok (.aload_n 0, 1) := by decide +kernel
theorem dL_law_1674 : decode cL_law 1674 = .ok (.iload 4, 2) := by decide +kernel
theorem dL_law_1676 : decode cL_law 1676 = .ok (.iconst 1, 1) := by decide +kernel
theorem dL_law_1677 : decode cL_law 1677 = .ok (.iadd, 1) := by decide +kernel
theorem dL_law_1678 : decode cL_law 1678 = .ok (.iaload, 1) := by decide +kernel
theorem dL_law_1679 : decode cL_law 1679 = .ok (.invokevirtual 210, 3) := by decide +kernel
theorem dL_law_1682 : decode cL_law 1682 = .ok (.istore 6, 2) := by decide +kernel
theorem dL_law_1684 : decode cL_law 1684 = .ok (.aload_n 2, 1) := by decide +kernel
theorem dL_law_1685 : decode cL_law 1685 = .ok (.invokevirtual 109, 3) := by decide +kernel
theorem dL_law_1688 : decode cL_law 1688 = .ok (.iload 5, 2) := by decide +kernel
theorem dL_law_1690 : decode cL_law 1690 = .ok (.if_icmp .eq 5, 3) := by decide +kernel
theorem dL_law_1693 : decode cL_law 1693 = .ok (.iconst 0, 1) := by decide +kernel
theorem dL_law_1695 : decode cL_law 1695 = .ok (.iload 5, 2) := by decide +kernel
theorem dL_law_1697 : decode cL_law 1697 = .ok (.ifCond .ne 15, 3) := by decide +kernel
theorem dL_law_1700 : decode cL_law 1700 = .ok (.aload_n 3, 1) := by decide +kernel
theorem dL_law_1701 : decode cL_law 1701 = .ok (.iconst 0, 1) := by decide +kernel
theorem dL_law_1702 : decode cL_law 1702 = .ok (.laload, 1) := by decide +kernel
theorem dL_law_1703 : decode cL_law 1703 = .ok (.iload 6, 2) := by decide +kernel
theorem dL_law_1705 : decode cL_law 1705 = .ok (.i2l, 1) := by decide +kernel
theorem dL_law_1706 : decode cL_law 1706 = .ok (.lcmp, 1) := by decide +kernel
theorem dL_law_1707 : decode cL_law 1707 = .ok (.ifCond .eq 5, 3) := by decide +kernel
theorem dL_law_1710 : decode cL_law 1710 = .ok (.iconst 0, 1) := by decide +kernel
theorem dL_law_1712 : decode cL_law 1712 = .ok (.goto 493, 3) := by decide +kernel
theorem dL_law_1715 : decode cL_law 1715 = .ok (.aload_n 1, 1) := by decide +kernel
theorem dL_law_1716 : decode cL_law 1716 = .ok (.invokevirtual 211, 3) := by decide +kernel
theorem dL_law_1719 : decode cL_law 1719 = .ok (.aload_n 2, 1) := by decide +kernel
theorem dL_law_1720 : decode cL_law 1720 = .ok (.invokevirtual 214, 3) := by decide +kernel
theorem dL_law_1723 : decode cL_law 1723 = .ok (.goto 482, 3) := by decide +kernel
theorem dL_law_1726 : decode cL_law 1726 = .ok (.aload_n 1, 1) := by decide +kernel
theorem dL_law_1727 : decode cL_law 1727 = .ok (.aload_n 0, 1) := by decide +kernel
theorem dL_law_1728 : decode cL_law 1728 = .ok (.iload 4, 2) := by decide +kernel
theorem dL_law_1730 : decode cL_law 1730 = .ok (.iconst 1, 1) := by decide +kernel
theorem dL_law_1731 : decode cL_law 1731 = .ok (.iadd, 1) := by decide +kernel
theorem dL_law_1732 : decode cL_law 1732 = .ok (.iaload, 1) := by decide +kernel
theorem dL_law_1733 : decode cL_law 1733 = .ok (.aload_n 0, 1) := by decide +kernel
theorem dL_law_1734 : decode cL_law 1734 = .ok (.iload 4, 2) := by decide +kernel
theorem dL_law_1736 : decode cL_law 1736 = .ok (.iconst 2, 1) := by decide +kernel
theorem dL_law_1737 : decode cL_law 1737 = .ok (.iadd, 1) := by decide +kernel
theorem dL_law_1738 : decode cL_law 1738 = .ok (.iaload, 1) := by decide +kernel
theorem dL_law_1739 : decode cL_law 1739 = .ok (.aload_n 3, 1) := by decide +kernel
theorem dL_law_1740 : decode cL_law 1740 = .ok (.invokestatic 215, 3) := by decide +kernel
theorem dL_law_1743 : decode cL_law 1743 = .ok (.istore 5, 2) := by decide +kernel
theorem dL_law_1745 : decode cL_law 1745 = .ok (.aload_n 2, 1) := by decide +kernel
theorem dL_law_1746 : decode cL_law 1746 = .ok (.aload_n 0, 1) := by decide +kernel
theorem dL_law_1747 : decode cL_law 1747 = .ok (.iload 4, 2) := by decide +kernel
theorem dL_law_1749 : decode cL_law 1749 = .ok (.iconst 1, 1) := by decide +kernel
theorem dL_law_1750 : decode cL_law 1750 = .ok (.iadd, 1) := by decide +kernel
theorem dL_law_1751 : decode cL_law 1751 = .ok (.iaload, 1) := by decide +kernel
theorem dL_law_1752 : decode cL_law 1752 = .ok (.aload_n 0, 1) := by decide +kernel
theorem dL_law_1753 : decode cL_law 1753 = .ok (.iload 4, 2) := by decide +kernel
theorem dL_law_1755 : decode cL_law 1755 = .ok (.iconst 2, 1) := by decide +kernel
theorem dL_law_1756 : decode cL_law 1756 = .ok (.iadd, 1) := by decide +kernel
theorem dL_law_1757 : decode cL_law 1757 = .ok (.iaload, 1) := by decide +kernel
theorem dL_law_1758 : decode cL_law 1758 = .ok (.invokevirtual 217, 3) := by decide +kernel
theorem dL_law_1761 : decode cL_law 1761 = .ok (.istore 6, 2) := by decide +kernel
theorem dL_law_1763 : decode cL_law 1763 = .ok (.aload_n 2, 1) := by decide +kernel
theorem dL_law_1764 : decode cL_law 1764 = .ok (.invokevirtual 109, 3) := by decide +kernel
theorem dL_law_1767 : decode cL_law 1767 = .ok (.iload 5, 2) := by decide +kernel
theorem dL_law_1769 : decode cL_law 1769 = .ok (.if_icmp .eq 5, 3) := by decide +kernel
theorem dL_law_1772 : decode cL_law 1772 = .ok (.iconst 0, 1) := by decide +kernel
theorem dL_law_1774 : decode cL_law 1774 = .ok (.iload 5, 2) := by decide +kernel
theorem dL_law_1776 : decode cL_law 1776 = .ok (.ifCond .ne 15, 3) := by decide +kernel
theorem dL_law_1779 : decode cL_law 1779 = .ok (.aload_n 3, 1) := by decide +kernel
theorem dL_law_1780 : decode cL_law 1780 = .ok (.iconst 0, 1) := by decide +kernel
theorem dL_law_1781 : decode cL_law 1781 = .ok (.laload, 1) := by decide +kernel
theorem dL_law_1782 : decode cL_law 1782 = .ok (.iload 6, 2) := by decide +kernel
theorem dL_law_1784 : decode cL_law 1784 = .ok (.i2l, 1) := by decide +kernel
theorem dL_law_1785 : decode cL_law 1785 = .ok (.lcmp, 1) := by decide +kernel
theorem dL_law_1786 : decode cL_law 1786 = .ok (.ifCond .eq 5, 3) := by decide +kernel
theorem dL_law_1789 : decode cL_law 1789 = .ok (.iconst 0, 1) := by decide +kernel
theorem dL_law_1791 : decode cL_law 1791 = .ok (.goto 414, 3) := by decide +kernel
theorem dL_law_1794 : decode cL_law 1794 = .ok (.aload_n 1, 1) := by decide +kernel
theorem dL_law_1795 : decode cL_law 1795 = .ok (.invokevirtual 218, 3) := by decide +kernel
theorem dL_law_1798 : decode cL_law 1798 = .ok (.aload_n 2, 1) := by decide +kernel
theorem dL_law_1799 : decode cL_law 1799 = .ok (.invokevirtual 221, 3) := by decide +kernel
theorem dL_law_1802 : decode cL_law 1802 = .ok (.if_icmp .eq 403, 3) := by decide +kernel
theorem dL_law_1805 : decode cL_law 1805 = .ok (.iconst 0, 1) := by decide +kernel
theorem dL_law_1807 : decode cL_law 1807 = .ok (.aload_n 1, 1) := by decide +kernel
theorem dL_law_1808 : decode cL_law 1808 = .ok (.invokevirtual 222, 3) := by decide +kernel
theorem dL_law_1811 : decode cL_law 1811 = .ok (.aload_n 2, 1) := by decide +kernel
theorem dL_law_1812 : decode cL_law 1812 = .ok (.invokevirtual 225, 3) := by decide +kernel
theorem dL_law_1815 : decode cL_law 1815 = .ok (.if_icmp .eq 390, 3) := by decide +kernel
theorem dL_law_1818 : decode cL_law 1818 = .ok (.iconst 0, 1) := by decide +kernel
theorem dL_law_1820 : decode cL_law 1820 = .ok (.aload_n 1, 1) := by decide +kernel
theorem dL_law_1821 : decode cL_law 1821 = .ok (.invokevirtual 226, 3) := by decide +kernel
theorem dL_law_1824 : decode cL_law 1824 = .ok (.aload_n 2, 1) := by decide +kernel
theorem dL_law_1825 : decode cL_law 1825 = .ok (.invokevirtual 229, 3) := by decide +kernel
theorem dL_law_1828 : decode cL_law 1828 = .ok (.if_icmp .eq 377, 3) := by decide +kernel
theorem dL_law_1831 : decode cL_law 1831 = .ok (.iconst 0, 1) := by decide +kernel
theorem dL_law_1833 : decode cL_law 1833 = .ok (.aload_n 1, 1) := by decide +kernel
theorem dL_law_1834 : decode cL_law 1834 = .ok (.aload_n 0, 1) := by decide +kernel
theorem dL_law_1835 : decode cL_law 1835 = .ok (.iload 4, 2) := by decide +kernel
theorem dL_law_1837 : decode cL_law 1837 = .ok (.iconst 1, 1) := by decide +kernel
theorem dL_law_1838 : decode cL_law 1838 = .ok (.iadd, 1) := by decide +kernel
theorem dL_law_1839 : decode cL_law 1839 = .ok (.iaload, 1) := by decide +kernel
theorem dL_law_1840 : decode cL_law 1840 = .ok (.aload_n 3, 1) := by decide +kernel
theorem dL_law_1841 : decode cL_law 1841 = .ok (.invokestatic 230, 3) := by decide +kernel
theorem dL_law_1844 : decode cL_law 1844 = .ok (.istore 5, 2) := by decide +kernel
theorem dL_law_1846 : decode cL_law 1846 = .ok (.aload_n 2, 1) := by decide +kernel
theorem dL_law_1847 : decode cL_law 1847 = .ok (.aload_n 0, 1) := by decide +kernel
theorem dL_law_1848 : decode cL_law 1848 = .ok (.iload 4, 2) := by decide +kernel
theorem dL_law_1850 : decode cL_law 1850 = .ok (.iconst 1, 1) := by decide +kernel
theorem dL_law_1851 : decode cL_law 1851 = .ok (.iadd, 1) := by decide +kernel
theorem dL_law_1852 : decode cL_law 1852 = .ok (.iaload, 1) := by decide +kernel
theorem dL_law_1853 : decode cL_law 1853 = .ok (.invokevirtual 232, 3) := by decide +kernel
theorem dL_law_1856 : decode cL_law 1856 = .ok (.istore 6, 2) := by decide +kernel
theorem dL_law_1858 : decode cL_law 1858 = .ok (.aload_n 2, 1) := by decide +kernel
theorem dL_law_1859 : decode cL_law 1859 = .ok (.invokevirtual 109, 3) := by decide +kernel
theorem dL_law_1862 : decode cL_law 1862 = .ok (.iload 5, 2) := by decide +kernel
theorem dL_law_1864 : decode cL_law 1864 = .ok (.if_icmp .eq 5, 3) := by decide +kernel
theorem dL_law_1867 : decode cL_law 1867 = .ok (.iconst 0, 1) := by decide +kernel
theorem dL_law_1869 : decode cL_law 1869 = .ok (.iload 5, 2) := by decide +kernel
theorem dL_law_1871 : decode cL_law 1871 = .ok (.ifCond .ne 15, 3) := by decide +kernel
theorem dL_law_1874 : decode cL_law 1874 = .ok (.aload_n 3, 1) := by decide +kernel
theorem dL_law_1875 : decode cL_law 1875 = .ok (.iconst 0, 1) := by decide +kernel
theorem dL_law_1876 : decode cL_law 1876 = .ok (.laload, 1) := by decide +kernel
theorem dL_law_1877 : decode cL_law 1877 = .ok (.iload 6, 2) := by decide +kernel
theorem dL_law_1879 : decode cL_law 1879 = .ok (.i2l, 1) := by decide +kernel
theorem dL_law_1880 : decode cL_law 1880 = .ok (.lcmp, 1) := by decide +kernel
theorem dL_law_1881 : decode cL_law 1881 = .ok (.ifCond .eq 5, 3) := by decide +kernel
theorem dL_law_1884 : decode cL_law 1884 = .ok (.iconst 0, 1) := by decide +kernel
theorem dL_law_1886 : decode cL_law 1886 = .ok (.goto 319, 3) := by decide +kernel
theorem dL_law_1889 : decode cL_law 1889 = .ok (.aload_n 1, 1) := by decide +kernel
theorem dL_law_1890 : decode cL_law 1890 = .ok (.aload_n 0, 1) := by decide +kernel
theorem dL_law_1891 : decode cL_law 1891 = .ok (.iload 4, 2) := by decide +kernel
theorem dL_law_1893 : decode cL_law 1893 = .ok (.iconst 1, 1) := by decide +kernel
theorem dL_law_1894 : decode cL_law 1894 = .ok (.iadd, 1) := by decide +kernel
theorem dL_law_1895 : decode cL_law 1895 = .ok (.iaload, 1) := by decide +kernel
theorem dL_law_1896 : decode cL_law 1896 = .ok (.aload_n 3, 1) := by decide +kernel
theorem dL_law_1897 : decode cL_law 1897 = .ok (.invokestatic 233, 3) := by decide +kernel
theorem dL_law_1900 : decode cL_law 1900 = .ok (.istore 5, 2) := by decide +kernel
theorem dL_law_1902 : decode cL_law 1902 = .ok (.aload_n 2, 1) := by decide +kernel
theorem dL_law_1903 : decode cL_law 1903 = .ok (.aload_n 0, 1) := by decide +kernel
theorem dL_law_1904 : decode cL_law 1904 = .ok (.iload 4, 2) := by decide +kernel
theorem dL_law_1906 : decode cL_law 1906 = .ok (.iconst 1, 1) := by decide +kernel
theorem dL_law_1907 : decode cL_law 1907 = .ok (.iadd, 1) := by decide +kernel
theorem dL_law_1908 : decode cL_law 1908 = .ok (.iaload, 1) := by decide +kernel
theorem dL_law_1909 : decode cL_law 1909 = .ok (.invokevirtual 235, 3) := by decide +kernel
theorem dL_law_1912 : decode cL_law 1912 = .ok (.istore 6, 2) := by decide +kernel
theorem dL_law_1914 : decode cL_law 1914 = .ok (.aload_n 2, 1) := by decide +kernel
theorem dL_law_1915 : decode cL_law 1915 = .ok (.invokevirtual 109, 3) := by decide +kernel
theorem dL_law_1918 : decode cL_law 1918 = .ok (.iload 5, 2) := by decide +kernel
theorem dL_law_1920 : decode cL_law 1920 = .ok (.if_icmp .eq 5, 3) := by decide +kernel
theorem dL_law_1923 : decode cL_law 1923 = .ok (.iconst 0, 1) := by decide +kernel
theorem dL_law_1925 : decode cL_law 1925 = .ok (.iload 5, 2) := by decide +kernel
theorem dL_law_1927 : decode cL_law 1927 = .ok (.ifCond .ne 15, 3) := by decide +kernel
theorem dL_law_1930 : decode cL_law 1930 = .ok (.aload_n 3, 1) := by decide +kernel
theorem dL_law_1931 : decode cL_law 1931 = .ok (.iconst 0, 1) := by decide +kernel
theorem dL_law_1932 : decode cL_law 1932 = .ok (.laload, 1) := by decide +kernel
theorem dL_law_1933 : decode cL_law 1933 = .ok (.iload 6, 2) := by decide +kernel
theorem dL_law_1935 : decode cL_law 1935 = .ok (.i2l, 1) := by decide +kernel
theorem dL_law_1936 : decode cL_law 1936 = .ok (.lcmp, 1) := by decide +kernel
theorem dL_law_1937 : decode cL_law 1937 = .ok (.ifCond .eq 5, 3) := by decide +kernel
theorem dL_law_1940 : decode cL_law 1940 = .ok (.iconst 0, 1) := by decide +kernel
theorem dL_law_1942 : decode cL_law 1942 = .ok (.goto 263, 3) := by decide +kernel
theorem dL_law_1945 : decode cL_law 1945 = .ok (.aload_n 1, 1) := by decide +kernel
theorem dL_law_1946 : decode cL_law 1946 = .ok (.aload_n 0, 1) := by decide +kernel
theorem dL_law_1947 : decode cL_law 1947 = .ok (.iload 4, 2) := by decide +kernel
theorem dL_law_1949 : decode cL_law 1949 = .ok (.iconst 1, 1) := by decide +kernel
theorem dL_law_1950 : decode cL_law 1950 = .ok (.iadd, 1) := by decide +kernel
theorem dL_law_1951 : decode cL_law 1951 = .ok (.iaload, 1) := by decide +kernel
theorem dL_law_1952 : decode cL_law 1952 = .ok (.aload_n 3, 1) := by decide +kernel
theorem dL_law_1953 : decode cL_law 1953 = .ok (.invokestatic 236, 3) := by decide +kernel
theorem dL_law_1956 : decode cL_law 1956 = .ok (.istore 5, 2) := by decide +kernel
theorem dL_law_1958 : decode cL_law 1958 = .ok (.aload_n 2, 1) := by decide +kernel
theorem dL_law_1959 : decode cL_law 1959 = .ok (.aload_n 0, 1) := by decide +kernel
theorem dL_law_1960 : decode cL_law 1960 = .ok (.iload 4, 2) := by decide +kernel
theorem dL_law_1962 : decode cL_law 1962 = .ok (.iconst 1, 1) := by decide +kernel
theorem dL_law_1963 : decode cL_law 1963 = .ok (.iadd, 1) := by decide +kernel
theorem dL_law_1964 : decode cL_law 1964 = .ok (.iaload, 1) := by decide +kernel
theorem dL_law_1965 : decode cL_law 1965 = .ok (.invokevirtual 238, 3) := by decide +kernel
theorem dL_law_1968 : decode cL_law 1968 = .ok (.istore 6, 2) := by decide +kernel
theorem dL_law_1970 : decode cL_law 1970 = .ok (.aload_n 2, 1) := by decide +kernel
theorem dL_law_1971 : decode cL_law 1971 = .ok (.invokevirtual 109, 3) := by decide +kernel
theorem dL_law_1974 : decode cL_law 1974 = .ok (.iload 5, 2) := by decide +kernel
theorem dL_law_1976 : decode cL_law 1976 = .ok (.if_icmp .eq 5, 3) := by decide +kernel
theorem dL_law_1979 : decode cL_law 1979 = .ok (.iconst 0, 1) := by decide +kernel
theorem dL_law_1981 : decode cL_law 1981 = .ok (.iload 5, 2) := by decide +kernel
theorem dL_law_1983 : decode cL_law 1983 = .ok (.ifCond .ne 15, 3) := by decide +kernel
theorem dL_law_1986 : decode cL_law 1986 = .ok (.aload_n 3, 1) := by decide +kernel
theorem dL_law_1987 : decode cL_law 1987 = .ok (.iconst 0, 1) := by decide +kernel
theorem dL_law_1988 : decode cL_law 1988 = .ok (.laload, 1) := by decide +kernel
theorem dL_law_1989 : decode cL_law 1989 = .ok (.iload 6, 2) := by decide +kernel
theorem dL_law_1991 : decode cL_law 1991 = .ok (.i2l, 1) := by decide +kernel
theorem dL_law_1992 : decode cL_law 1992 = .ok (.lcmp, 1) := by decide +kernel
theorem dL_law_1993 : decode cL_law 1993 = .ok (.ifCond .eq 5, 3) := by decide +kernel
theorem dL_law_1996 : decode cL_law 1996 = .ok (.iconst 0, 1) := by decide +kernel
theorem dL_law_1998 : decode cL_law 1998 = .ok (.goto 207, 3) := by decide +kernel
theorem dL_law_2001 : decode cL_law 2001 = .ok (.aload_n 1, 1) := by decide +kernel
theorem dL_law_2002 : decode cL_law 2002 = .ok (.aload_n 0, 1) := by decide +kernel
theorem dL_law_2003 : decode cL_law 2003 = .ok (.iload 4, 2) := by decide +kernel
theorem dL_law_2005 : decode cL_law 2005 = .ok (.iconst 1, 1) := by decide +kernel
theorem dL_law_2006 : decode cL_law 2006 = .ok (.iadd, 1) := by decide +kernel
theorem dL_law_2007 : decode cL_law 2007 = .ok (.iaload, 1) := by decide +kernel
theorem dL_law_2008 : decode cL_law 2008 = .ok (.aload_n 0, 1) := by decide +kernel
theorem dL_law_2009 : decode cL_law 2009 = .ok (.iload 4, 2) := by decide +kernel
theorem dL_law_2011 : decode cL_law 2011 = .ok (.iconst 2, 1) := by decide +kernel
theorem dL_law_2012 : decode cL_law 2012 = .ok (.iadd, 1) := by decide +kernel
theorem dL_law_2013 : decode cL_law 2013 = .ok (.iaload, 1) := by decide +kernel
theorem dL_law_2014 : decode cL_law 2014 = .ok (.aload_n 3, 1) := by decide +kernel
theorem dL_law_2015 : decode cL_law 2015 = .ok (.invokestatic 239, 3) := by decide +kernel
theorem dL_law_2018 : decode cL_law 2018 = .ok (.istore 5, 2) := by decide +kernel
theorem dL_law_2020 : decode cL_law 2020 = .ok (.aload_n 2, 1) := by decide +kernel
theorem dL_law_2021 : decode cL_law 2021 = .ok (.aload_n 0, 1) := by decide +kernel
theorem dL_law_2022 : decode cL_law 2022 = .ok (.iload 4, 2) := by decide +kernel
theorem dL_law_2024 : decode cL_law 2024 = .ok (.iconst 1, 1) := by decide +kernel
theorem dL_law_2025 : decode cL_law 2025 = .ok (.iadd, 1) := by decide +kernel
theorem dL_law_2026 : decode cL_law 2026 = .ok (.iaload, 1) := by decide +kernel
theorem dL_law_2027 : decode cL_law 2027 = .ok (.aload_n 0, 1) := by decide +kernel
theorem dL_law_2028 : decode cL_law 2028 = .ok (.iload 4, 2) := by decide +kernel
theorem dL_law_2030 : decode cL_law 2030 = .ok (.iconst 2, 1) := by decide +kernel
theorem dL_law_2031 : decode cL_law 2031 = .ok (.iadd, 1) := by decide +kernel
theorem dL_law_2032 : decode cL_law 2032 = .ok (.iaload, 1) := by decide +kernel
theorem dL_law_2033 : decode cL_law 2033 = .ok (.invokevirtual 241, 3) := by decide +kernel
theorem dL_law_2036 : decode cL_law 2036 = .ok (.istore 6, 2) := by decide +kernel
theorem dL_law_2038 : decode cL_law 2038 = .ok (.aload_n 2, 1) := by decide +kernel
theorem dL_law_2039 : decode cL_law 2039 = .ok (.invokevirtual 109, 3) := by decide +kernel
theorem dL_law_2042 : decode cL_law 2042 = .ok (.iload 5, 2) := by decide +kernel
theorem dL_law_2044 : decode cL_law 2044 = .ok (.if_icmp .eq 5, 3) := by decide +kernel
theorem dL_law_2047 : decode cL_law 2047 = .ok (.iconst 0, 1) := by decide +kernel
theorem dL_law_2049 : decode cL_law 2049 = .ok (.iload 5, 2) := by decide +kernel
theorem dL_law_2051 : decode cL_law 2051 = .ok (.ifCond .ne 15, 3) := by decide +kernel
theorem dL_law_2054 : decode cL_law 2054 = .ok (.aload_n 3, 1) := by decide +kernel
theorem dL_law_2055 : decode cL_law 2055 = .ok (.iconst 0, 1) := by decide +kernel
theorem dL_law_2056 : decode cL_law 2056 = .ok (.laload, 1) := by decide +kernel
theorem dL_law_2057 : decode cL_law 2057 = .ok (.iload 6, 2) := by decide +kernel
theorem dL_law_2059 : decode cL_law 2059 = .ok (.i2l, 1) := by decide +kernel
theorem dL_law_2060 : decode cL_law 2060 = .ok (.lcmp, 1) := by decide +kernel
theorem dL_law_2061 : decode cL_law 2061 = .ok (.ifCond .eq 5, 3) := by decide +kernel
theorem dL_law_2064 : decode cL_law 2064 = .ok (.iconst 0, 1) := by decide +kernel
theorem dL_law_2066 : decode cL_law 2066 = .ok (.goto 139, 3) := by decide +kernel
theorem dL_law_2069 : decode cL_law 2069 = .ok (.aload_n 1, 1) := by decide +kernel
theorem dL_law_2070 : decode cL_law 2070 = .ok (.aload_n 0, 1) := by decide +kernel
theorem dL_law_2071 : decode cL_law 2071 = .ok (.iload 4, 2) := by decide +kernel
theorem dL_law_2073 : decode cL_law 2073 = .ok (.iconst 1, 1) := by decide +kernel
theorem dL_law_2074 : decode cL_law 2074 = .ok (.iadd, 1) := by decide +kernel
theorem dL_law_2075 : decode cL_law 2075 = .ok (.iaload, 1) := by decide +kernel
theorem dL_law_2076 : decode cL_law 2076 = .ok (.aload_n 3, 1) := by decide +kernel
theorem dL_law_2077 : decode cL_law 2077 = .ok (.invokestatic 242, 3) := by decide +kernel
theorem dL_law_2080 : decode cL_law 2080 = .ok (.istore 5, 2) := by decide +kernel
theorem dL_law_2082 : decode cL_law 2082 = .ok (.aload_n 2, 1) := by decide +kernel
theorem dL_law_2083 : decode cL_law 2083 = .ok (.aload_n 0, 1) := by decide +kernel
theorem dL_law_2084 : decode cL_law 2084 = .ok (.iload 4, 2) := by decide +kernel
theorem dL_law_2086 : decode cL_law 2086 = .ok (.iconst 1, 1) := by decide +kernel
theorem dL_law_2087 : decode cL_law 2087 = .ok (.iadd, 1) := by decide +kernel
theorem dL_law_2088 : decode cL_law 2088 = .ok (.iaload, 1) := by decide +kernel
theorem dL_law_2089 : decode cL_law 2089 = .ok (.invokevirtual 244, 3) := by decide +kernel
theorem dL_law_2092 : decode cL_law 2092 = .ok (.istore 6, 2) := by decide +kernel
theorem dL_law_2094 : decode cL_law 2094 = .ok (.aload_n 2, 1) := by decide +kernel
theorem dL_law_2095 : decode cL_law 2095 = .ok (.invokevirtual 109, 3) := by decide +kernel
theorem dL_law_2098 : decode cL_law 2098 = .ok (.iload 5, 2) := by decide +kernel
theorem dL_law_2100 : decode cL_law 2100 = .ok (.if_icmp .eq 5, 3) := by decide +kernel
theorem dL_law_2103 : decode cL_law 2103 = .ok (.iconst 0, 1) := by decide +kernel
theorem dL_law_2105 : decode cL_law 2105 = .ok (.iload 5, 2) := by decide +kernel
theorem dL_law_2107 : decode cL_law 2107 = .ok (.ifCond .ne 15, 3) := by decide +kernel
theorem dL_law_2110 : decode cL_law 2110 = .ok (.aload_n 3, 1) := by decide +kernel
theorem dL_law_2111 : decode cL_law 2111 = .ok (.iconst 0, 1) := by decide +kernel
theorem dL_law_2112 : decode cL_law 2112 = .ok (.laload, 1) := by decide +kernel
theorem dL_law_2113 : decode cL_law 2113 = .ok (.iload 6, 2) := by decide +kernel
theorem dL_law_2115 : decode cL_law 2115 = .ok (.i2l, 1) := by decide +kernel
theorem dL_law_2116 : decode cL_law 2116 = .ok (.lcmp, 1) := by decide +kernel
theorem dL_law_2117 : decode cL_law 2117 = .ok (.ifCond .eq 5, 3) := by decide +kernel
theorem dL_law_2120 : decode cL_law 2120 = .ok (.iconst 0, 1) := by decide +kernel
theorem dL_law_2122 : decode cL_law 2122 = .ok (.goto 83, 3) := by decide +kernel
theorem dL_law_2125 : decode cL_law 2125 = .ok (.aload_n 1, 1) := by decide +kernel
theorem dL_law_2126 : decode cL_law 2126 = .ok (.aload_n 0, 1) := by decide +kernel
theorem dL_law_2127 : decode cL_law 2127 = .ok (.iload 4, 2) := by decide +kernel
theorem dL_law_2129 : decode cL_law 2129 = .ok (.iconst 1, 1) := by decide +kernel
theorem dL_law_2130 : decode cL_law 2130 = .ok (.iadd, 1) := by decide +kernel
theorem dL_law_2131 : decode cL_law 2131 = .ok (.iaload, 1) := by decide +kernel
theorem dL_law_2132 : decode cL_law 2132 = .ok (.aload_n 3, 1) := by decide +kernel
theorem dL_law_2133 : decode cL_law 2133 = .ok (.invokestatic 245, 3) := by decide +kernel
theorem dL_law_2136 : decode cL_law 2136 = .ok (.istore 5, 2) := by decide +kernel
theorem dL_law_2138 : decode cL_law 2138 = .ok (.aload_n 2, 1) := by decide +kernel
theorem dL_law_2139 : decode cL_law 2139 = .ok (.aload_n 0, 1) := by decide +kernel
theorem dL_law_2140 : decode cL_law 2140 = .ok (.iload 4, 2) := by decide +kernel
theorem dL_law_2142 : decode cL_law 2142 = .ok (.iconst 1, 1) := by decide +kernel
theorem dL_law_2143 : decode cL_law 2143 = .ok (.iadd, 1) := by decide +kernel
theorem dL_law_2144 : decode cL_law 2144 = .ok (.iaload, 1) := by decide +kernel
theorem dL_law_2145 : decode cL_law 2145 = .ok (.invokevirtual 247, 3) := by decide +kernel
theorem dL_law_2148 : decode cL_law 2148 = .ok (.istore 6, 2) := by decide +kernel
theorem dL_law_2150 : decode cL_law 2150 = .ok (.aload_n 2, 1) := by decide +kernel
theorem dL_law_2151 : decode cL_law 2151 = .ok (.invokevirtual 109, 3) := by decide +kernel
theorem dL_law_2154 : decode cL_law 2154 = .ok (.iload 5, 2) := by decide +kernel
theorem dL_law_2156 : decode cL_law 2156 = .ok (.if_icmp .eq 5, 3) := by decide +kernel
theorem dL_law_2159 : decode cL_law 2159 = .ok (.iconst 0, 1) := by decide +kernel
theorem dL_law_2161 : decode cL_law 2161 = .ok (.iload 5, 2) := by decide +kernel
theorem dL_law_2163 : decode cL_law 2163 = .ok (.ifCond .ne 15, 3) := by decide +kernel
theorem dL_law_2166 : decode cL_law 2166 = .ok (.aload_n 3, 1) := by decide +kernel
theorem dL_law_2167 : decode cL_law 2167 = .ok (.iconst 0, 1) := by decide +kernel
theorem dL_law_2168 : decode cL_law 2168 = .ok (.laload, 1) := by decide +kernel
theorem dL_law_2169 : decode cL_law 2169 = .ok (.iload 6, 2) := by decide +kernel
theorem dL_law_2171 : decode cL_law 2171 = .ok (.i2l, 1) := by decide +kernel
theorem dL_law_2172 : decode cL_law 2172 = .ok (.lcmp, 1) := by decide +kernel
theorem dL_law_2173 : decode cL_law 2173 = .ok (.ifCond .eq 5, 3) := by decide +kernel
theorem dL_law_2176 : decode cL_law 2176 = .ok (.iconst 0, 1) := by decide +kernel
theorem dL_law_2178 : decode cL_law 2178 = .ok (.goto 27, 3) := by decide +kernel
theorem dL_law_2181 : decode cL_law 2181 = .ok (.aload_n 1, 1) := by decide +kernel
theorem dL_law_2182 : decode cL_law 2182 = .ok (.invokevirtual 248, 3) := by decide +kernel
theorem dL_law_2185 : decode cL_law 2185 = .ok (.aload_n 2, 1) := by decide +kernel
theorem dL_law_2186 : decode cL_law 2186 = .ok (.invokevirtual 251, 3) := by decide +kernel
theorem dL_law_2189 : decode cL_law 2189 = .ok (.goto 16, 3) := by decide +kernel
theorem dL_law_2192 : decode cL_law 2192 = .ok (.aload_n 1, 1) := by decide +kernel
theorem dL_law_2193 : decode cL_law 2193 = .ok (.invokevirtual 252, 3) := by decide +kernel
theorem dL_law_2196 : decode cL_law 2196 = .ok (.aload_n 2, 1) := by decide +kernel
theorem dL_law_2197 : decode cL_law 2197 = .ok (.invokevirtual 256, 3) := by decide +kernel
theorem dL_law_2200 : decode cL_law 2200 = .ok (.if_icmp .eq 5, 3) := by decide +kernel
theorem dL_law_2203 : decode cL_law 2203 = .ok (.iconst 0, 1) := by decide +kernel
theorem dL_law_2205 : decode cL_law 2205 = .ok (.iinc 4 6, 3) := by decide +kernel
theorem dL_law_2208 : decode cL_law 2208 = .ok (.goto (-2185), 3) := by decide +kernel
theorem dL_law_2211 : decode cL_law 2211 = .ok (.iconst 1, 1) := by decide +kernel
theorem dL_law_2212 : decode cL_law 2212 = .ok (.ireturn, 1) := by decide +kernel
def f_law (xs : Nat → Int32) (L : Nat) (a : Int32 × xS) : Option ((Int32 × xS) ⊕ (Int32 × xS)) :=
  let v4 := a.1; let σ := a.2;
  if ((Int32.ofNat L) - (6 : Int32)) < v4 then
    some (.inl (v4, σ))
  else
    if v4 < 0 ∨ L ≤ v4.toNatClampNeg then none else
    if ((xs v4.toNatClampNeg) &&& (63 : Int32)) = (0 : Int32) then
      if (v4 + (1 : Int32)) < 0 ∨ L ≤ (v4 + (1 : Int32)).toNatClampNeg then none else
      if (v4 + (2 : Int32)) < 0 ∨ L ≤ (v4 + (2 : Int32)).toNatClampNeg then none else
      if (v4 + (3 : Int32)) < 0 ∨ L ≤ (v4 + (3 : Int32)).toNatClampNeg then none else
      if (v4 + (4 : Int32)) < 0 ∨ L ≤ (v4 + (4 : Int32)).toNatClampNeg then none else
      if (v4 + (5 : Int32)) < 0 ∨ L ≤ (v4 + (5 : Int32)).toNatClampNeg then none else
      (f_RH_feed_0 (xs (v4 + (1 : Int32)).toNatClampNeg) (xs (v4 + (2 : Int32)).toNatClampNeg) (xs (v4 + (3 : Int32)).toNatClampNeg) (xs (v4 + (4 : Int32)).toNatClampNeg) (xs (v4 + (5 : Int32)).toNatClampNeg) σ).bind fun q1 =>
      if (v4 + (1 : Int32)) < 0 ∨ L ≤ (v4 + (1 : Int32)).toNatClampNeg then none else
      if (v4 + (2 : Int32)) < 0 ∨ L ≤ (v4 + (2 : Int32)).toNatClampNeg then none else
      if (v4 + (3 : Int32)) < 0 ∨ L ≤ (v4 + (3 : Int32)).toNatClampNeg then none else
      if (v4 + (4 : Int32)) < 0 ∨ L ≤ (v4 + (4 : Int32)).toNatClampNeg then none else
      if (v4 + (5 : Int32)) < 0 ∨ L ≤ (v4 + (5 : Int32)).toNatClampNeg then none else
      (f_Mo_feed_60 (xs (v4 + (1 : Int32)).toNatClampNeg) (xs (v4 + (2 : Int32)).toNatClampNeg) (xs (v4 + (3 : Int32)).toNatClampNeg) (xs (v4 + (4 : Int32)).toNatClampNeg) (xs (v4 + (5 : Int32)).toNatClampNeg) q1.2).bind fun q2 =>
      if q1.1 = q2.1 then
        let w3 := v4 + (6 : Int32)
        some (.inr (w3, q2.2))
      else
        none
    else if ((xs v4.toNatClampNeg) &&& (63 : Int32)) = (1 : Int32) then
      if (v4 + (1 : Int32)) < 0 ∨ L ≤ (v4 + (1 : Int32)).toNatClampNeg then none else
      (w_scene (xs (v4 + (1 : Int32)).toNatClampNeg) σ).bind fun q4 =>
      let w5 := q4.1
      if (v4 + (1 : Int32)) < 0 ∨ L ≤ (v4 + (1 : Int32)).toNatClampNeg then none else
      (f_Mo_scene_60 (xs (v4 + (1 : Int32)).toNatClampNeg) q4.2).bind fun q6 =>
      let w7 := q6.1
      (f_Mo_thrown_60  q6.2).bind fun q8 =>
      if q8.1 = w5 then
        if w5 = 0 then
          if (lg_cmp (q8.2.2 96 0) w7.toInt64) = 0 then
            let w10 := v4 + (6 : Int32)
            some (.inr (w10, q8.2))
          else
            none
        else
          let w9 := v4 + (6 : Int32)
          some (.inr (w9, q8.2))
      else
        none
    else if ((xs v4.toNatClampNeg) &&& (63 : Int32)) = (2 : Int32) then
      (f_RH_fault_0  σ).bind fun q11 =>
      (f_Mo_fault_60  q11.2).bind fun q12 =>
      if q11.1 = q12.1 then
        let w13 := v4 + (6 : Int32)
        some (.inr (w13, q12.2))
      else
        none
    else if ((xs v4.toNatClampNeg) &&& (63 : Int32)) = (3 : Int32) then
      if (v4 + (1 : Int32)) < 0 ∨ L ≤ (v4 + (1 : Int32)).toNatClampNeg then none else
      (w_count (xs (v4 + (1 : Int32)).toNatClampNeg) σ).bind fun q14 =>
      let w15 := q14.1
      if (v4 + (1 : Int32)) < 0 ∨ L ≤ (v4 + (1 : Int32)).toNatClampNeg then none else
      (f_Mo_count_60 (xs (v4 + (1 : Int32)).toNatClampNeg) q14.2).bind fun q16 =>
      let w17 := q16.1
      (f_Mo_thrown_60  q16.2).bind fun q18 =>
      if q18.1 = w15 then
        if w15 = 0 then
          if (lg_cmp (q18.2.2 96 0) w17.toInt64) = 0 then
            let w20 := v4 + (6 : Int32)
            some (.inr (w20, q18.2))
          else
            none
        else
          let w19 := v4 + (6 : Int32)
          some (.inr (w19, q18.2))
      else
        none
    else if ((xs v4.toNatClampNeg) &&& (63 : Int32)) = (4 : Int32) then
      if (v4 + (1 : Int32)) < 0 ∨ L ≤ (v4 + (1 : Int32)).toNatClampNeg then none else
      (w_mark (xs (v4 + (1 : Int32)).toNatClampNeg) σ).bind fun q21 =>
      let w22 := q21.1
      if (v4 + (1 : Int32)) < 0 ∨ L ≤ (v4 + (1 : Int32)).toNatClampNeg then none else
      (f_Mo_mark_60 (xs (v4 + (1 : Int32)).toNatClampNeg) q21.2).bind fun q23 =>
      let w24 := q23.1
      (f_Mo_thrown_60  q23.2).bind fun q25 =>
      if q25.1 = w22 then
        if w22 = 0 then
          if (lg_cmp (q25.2.2 96 0) w24.toInt64) = 0 then
            let w27 := v4 + (6 : Int32)
            some (.inr (w27, q25.2))
          else
            none
        else
          let w26 := v4 + (6 : Int32)
          some (.inr (w26, q25.2))
      else
        none
    else if ((xs v4.toNatClampNeg) &&& (63 : Int32)) = (5 : Int32) then
      if (v4 + (1 : Int32)) < 0 ∨ L ≤ (v4 + (1 : Int32)).toNatClampNeg then none else
      if (v4 + (2 : Int32)) < 0 ∨ L ≤ (v4 + (2 : Int32)).toNatClampNeg then none else
      (w_inches (xs (v4 + (1 : Int32)).toNatClampNeg) (xs (v4 + (2 : Int32)).toNatClampNeg) σ).bind fun q28 =>
      let w29 := q28.1
      if (v4 + (1 : Int32)) < 0 ∨ L ≤ (v4 + (1 : Int32)).toNatClampNeg then none else
      if (v4 + (2 : Int32)) < 0 ∨ L ≤ (v4 + (2 : Int32)).toNatClampNeg then none else
      (f_Mo_inches_60 (xs (v4 + (1 : Int32)).toNatClampNeg) (xs (v4 + (2 : Int32)).toNatClampNeg) q28.2).bind fun q30 =>
      let w31 := q30.1
      (f_Mo_thrown_60  q30.2).bind fun q32 =>
      if q32.1 = w29 then
        if w29 = 0 then
          if (lg_cmp (q32.2.2 96 0) w31.toInt64) = 0 then
            let w34 := v4 + (6 : Int32)
            some (.inr (w34, q32.2))
          else
            none
        else
          let w33 := v4 + (6 : Int32)
          some (.inr (w33, q32.2))
      else
        none
    else if ((xs v4.toNatClampNeg) &&& (63 : Int32)) = (6 : Int32) then
      if (v4 + (1 : Int32)) < 0 ∨ L ≤ (v4 + (1 : Int32)).toNatClampNeg then none else
      (w_turn (xs (v4 + (1 : Int32)).toNatClampNeg) σ).bind fun q35 =>
      let w36 := q35.1
      if (v4 + (1 : Int32)) < 0 ∨ L ≤ (v4 + (1 : Int32)).toNatClampNeg then none else
      (f_Mo_turn_60 (xs (v4 + (1 : Int32)).toNatClampNeg) q35.2).bind fun q37 =>
      let w38 := q37.1
      (f_Mo_thrown_60  q37.2).bind fun q39 =>
      if q39.1 = w36 then
        if w36 = 0 then
          if (lg_cmp (q39.2.2 96 0) w38.toInt64) = 0 then
            let w41 := v4 + (6 : Int32)
            some (.inr (w41, q39.2))
          else
            none
        else
          let w40 := v4 + (6 : Int32)
          some (.inr (w40, q39.2))
      else
        none
    else if ((xs v4.toNatClampNeg) &&& (63 : Int32)) = (7 : Int32) then
      if (v4 + (1 : Int32)) < 0 ∨ L ≤ (v4 + (1 : Int32)).toNatClampNeg then none else
      if (v4 + (2 : Int32)) < 0 ∨ L ≤ (v4 + (2 : Int32)).toNatClampNeg then none else
      (w_tenth (xs (v4 + (1 : Int32)).toNatClampNeg) (xs (v4 + (2 : Int32)).toNatClampNeg) σ).bind fun q42 =>
      let w43 := q42.1
      if (v4 + (1 : Int32)) < 0 ∨ L ≤ (v4 + (1 : Int32)).toNatClampNeg then none else
      if (v4 + (2 : Int32)) < 0 ∨ L ≤ (v4 + (2 : Int32)).toNatClampNeg then none else
      (f_Mo_tenth_60 (xs (v4 + (1 : Int32)).toNatClampNeg) (xs (v4 + (2 : Int32)).toNatClampNeg) q42.2).bind fun q44 =>
      let w45 := q44.1
      (f_Mo_thrown_60  q44.2).bind fun q46 =>
      if q46.1 = w43 then
        if w43 = 0 then
          if (lg_cmp (q46.2.2 96 0) w45.toInt64) = 0 then
            let w48 := v4 + (6 : Int32)
            some (.inr (w48, q46.2))
          else
            none
        else
          let w47 := v4 + (6 : Int32)
          some (.inr (w47, q46.2))
      else
        none
    else if ((xs v4.toNatClampNeg) &&& (63 : Int32)) = (8 : Int32) then
      if (v4 + (1 : Int32)) < 0 ∨ L ≤ (v4 + (1 : Int32)).toNatClampNeg then none else
      (w_all (xs (v4 + (1 : Int32)).toNatClampNeg) σ).bind fun q49 =>
      let w50 := q49.1
      if (v4 + (1 : Int32)) < 0 ∨ L ≤ (v4 + (1 : Int32)).toNatClampNeg then none else
      (f_Mo_all_60 (xs (v4 + (1 : Int32)).toNatClampNeg) q49.2).bind fun q51 =>
      let w52 := q51.1
      (f_Mo_thrown_60  q51.2).bind fun q53 =>
      if q53.1 = w50 then
        if w50 = 0 then
          if (lg_cmp (q53.2.2 96 0) w52.toInt64) = 0 then
            let w55 := v4 + (6 : Int32)
            some (.inr (w55, q53.2))
          else
            none
        else
          let w54 := v4 + (6 : Int32)
          some (.inr (w54, q53.2))
      else
        none
    else if ((xs v4.toNatClampNeg) &&& (63 : Int32)) = (9 : Int32) then
      if (v4 + (1 : Int32)) < 0 ∨ L ≤ (v4 + (1 : Int32)).toNatClampNeg then none else
      (f_RH_hole_0 (xs (v4 + (1 : Int32)).toNatClampNeg) σ).bind fun q56 =>
      if (v4 + (1 : Int32)) < 0 ∨ L ≤ (v4 + (1 : Int32)).toNatClampNeg then none else
      (f_Mo_hole_60 (xs (v4 + (1 : Int32)).toNatClampNeg) q56.2).bind fun q57 =>
      if q56.1 = q57.1 then
        let w58 := v4 + (6 : Int32)
        some (.inr (w58, q57.2))
      else
        none
    else if ((xs v4.toNatClampNeg) &&& (63 : Int32)) = (10 : Int32) then
      if (v4 + (1 : Int32)) < 0 ∨ L ≤ (v4 + (1 : Int32)).toNatClampNeg then none else
      (f_RH_lag_0 (xs (v4 + (1 : Int32)).toNatClampNeg) σ).bind fun q59 =>
      if (v4 + (1 : Int32)) < 0 ∨ L ≤ (v4 + (1 : Int32)).toNatClampNeg then none else
      (f_Mo_lag_60 (xs (v4 + (1 : Int32)).toNatClampNeg) q59.2).bind fun q60 =>
      if q59.1 = q60.1 then
        let w61 := v4 + (6 : Int32)
        some (.inr (w61, q60.2))
      else
        none
    else if ((xs v4.toNatClampNeg) &&& (63 : Int32)) = (11 : Int32) then
      if (v4 + (1 : Int32)) < 0 ∨ L ≤ (v4 + (1 : Int32)).toNatClampNeg then none else
      (f_RH_wrist_0 (xs (v4 + (1 : Int32)).toNatClampNeg) σ).bind fun q62 =>
      if (v4 + (1 : Int32)) < 0 ∨ L ≤ (v4 + (1 : Int32)).toNatClampNeg then none else
      (f_Mo_wrist_60 (xs (v4 + (1 : Int32)).toNatClampNeg) q62.2).bind fun q63 =>
      if q62.1 = q63.1 then
        let w64 := v4 + (6 : Int32)
        some (.inr (w64, q63.2))
      else
        none
    else if ((xs v4.toNatClampNeg) &&& (63 : Int32)) = (12 : Int32) then
      if (v4 + (1 : Int32)) < 0 ∨ L ≤ (v4 + (1 : Int32)).toNatClampNeg then none else
      (f_RH_eye_0 (xs (v4 + (1 : Int32)).toNatClampNeg) σ).bind fun q65 =>
      if (v4 + (1 : Int32)) < 0 ∨ L ≤ (v4 + (1 : Int32)).toNatClampNeg then none else
      (f_Mo_eye_60 (xs (v4 + (1 : Int32)).toNatClampNeg) q65.2).bind fun q66 =>
      if q65.1 = q66.1 then
        let w67 := v4 + (6 : Int32)
        some (.inr (w67, q66.2))
      else
        none
    else if ((xs v4.toNatClampNeg) &&& (63 : Int32)) = (13 : Int32) then
      if (v4 + (1 : Int32)) < 0 ∨ L ≤ (v4 + (1 : Int32)).toNatClampNeg then none else
      (f_RH_hand_0 (xs (v4 + (1 : Int32)).toNatClampNeg) σ).bind fun q68 =>
      if (v4 + (1 : Int32)) < 0 ∨ L ≤ (v4 + (1 : Int32)).toNatClampNeg then none else
      (f_Mo_hand_60 (xs (v4 + (1 : Int32)).toNatClampNeg) q68.2).bind fun q69 =>
      if q68.1 = q69.1 then
        let w70 := v4 + (6 : Int32)
        some (.inr (w70, q69.2))
      else
        none
    else if ((xs v4.toNatClampNeg) &&& (63 : Int32)) = (14 : Int32) then
      if (v4 + (1 : Int32)) < 0 ∨ L ≤ (v4 + (1 : Int32)).toNatClampNeg then none else
      (f_RH_behind_0 (xs (v4 + (1 : Int32)).toNatClampNeg) σ).bind fun q71 =>
      if (v4 + (1 : Int32)) < 0 ∨ L ≤ (v4 + (1 : Int32)).toNatClampNeg then none else
      (f_Mo_behind_60 (xs (v4 + (1 : Int32)).toNatClampNeg) q71.2).bind fun q72 =>
      if q71.1 = q72.1 then
        let w73 := v4 + (6 : Int32)
        some (.inr (w73, q72.2))
      else
        none
    else if ((xs v4.toNatClampNeg) &&& (63 : Int32)) = (15 : Int32) then
      if (v4 + (1 : Int32)) < 0 ∨ L ≤ (v4 + (1 : Int32)).toNatClampNeg then none else
      if (v4 + (2 : Int32)) < 0 ∨ L ≤ (v4 + (2 : Int32)).toNatClampNeg then none else
      (w_chalk (xs (v4 + (1 : Int32)).toNatClampNeg) (xs (v4 + (2 : Int32)).toNatClampNeg) σ).bind fun q74 =>
      let w75 := q74.1
      if (v4 + (1 : Int32)) < 0 ∨ L ≤ (v4 + (1 : Int32)).toNatClampNeg then none else
      if (v4 + (2 : Int32)) < 0 ∨ L ≤ (v4 + (2 : Int32)).toNatClampNeg then none else
      (f_Mo_chalk_60 (xs (v4 + (1 : Int32)).toNatClampNeg) (xs (v4 + (2 : Int32)).toNatClampNeg) q74.2).bind fun q76 =>
      let w77 := q76.1
      (f_Mo_thrown_60  q76.2).bind fun q78 =>
      if q78.1 = w75 then
        if w75 = 0 then
          if (lg_cmp (q78.2.2 96 0) w77.toInt64) = 0 then
            let w80 := v4 + (6 : Int32)
            some (.inr (w80, q78.2))
          else
            none
        else
          let w79 := v4 + (6 : Int32)
          some (.inr (w79, q78.2))
      else
        none
    else if ((xs v4.toNatClampNeg) &&& (63 : Int32)) = (16 : Int32) then
      (f_RH_undo_0  σ).bind fun q81 =>
      (f_Mo_undo_60  q81.2).bind fun q82 =>
      if q81.1 = q82.1 then
        let w83 := v4 + (6 : Int32)
        some (.inr (w83, q82.2))
      else
        none
    else if ((xs v4.toNatClampNeg) &&& (63 : Int32)) = (17 : Int32) then
      if (v4 + (1 : Int32)) < 0 ∨ L ≤ (v4 + (1 : Int32)).toNatClampNeg then none else
      (w_best (xs (v4 + (1 : Int32)).toNatClampNeg) σ).bind fun q84 =>
      let w85 := q84.1
      if (v4 + (1 : Int32)) < 0 ∨ L ≤ (v4 + (1 : Int32)).toNatClampNeg then none else
      (f_Mo_best_60 (xs (v4 + (1 : Int32)).toNatClampNeg) q84.2).bind fun q86 =>
      let w87 := q86.1
      (f_Mo_thrown_60  q86.2).bind fun q88 =>
      if q88.1 = w85 then
        if w85 = 0 then
          if (lg_cmp (q88.2.2 96 0) w87.toInt64) = 0 then
            let w90 := v4 + (6 : Int32)
            some (.inr (w90, q88.2))
          else
            none
        else
          let w89 := v4 + (6 : Int32)
          some (.inr (w89, q88.2))
      else
        none
    else if ((xs v4.toNatClampNeg) &&& (63 : Int32)) = (18 : Int32) then
      if (v4 + (1 : Int32)) < 0 ∨ L ≤ (v4 + (1 : Int32)).toNatClampNeg then none else
      (w_foretell (xs (v4 + (1 : Int32)).toNatClampNeg) σ).bind fun q91 =>
      let w92 := q91.1
      if (v4 + (1 : Int32)) < 0 ∨ L ≤ (v4 + (1 : Int32)).toNatClampNeg then none else
      (f_Mo_foretell_60 (xs (v4 + (1 : Int32)).toNatClampNeg) q91.2).bind fun q93 =>
      let w94 := q93.1
      (f_Mo_thrown_60  q93.2).bind fun q95 =>
      if q95.1 = w92 then
        if w92 = 0 then
          if (lg_cmp (q95.2.2 96 0) w94.toInt64) = 0 then
            let w97 := v4 + (6 : Int32)
            some (.inr (w97, q95.2))
          else
            none
        else
          let w96 := v4 + (6 : Int32)
          some (.inr (w96, q95.2))
      else
        none
    else if ((xs v4.toNatClampNeg) &&& (63 : Int32)) = (19 : Int32) then
      if (v4 + (1 : Int32)) < 0 ∨ L ≤ (v4 + (1 : Int32)).toNatClampNeg then none else
      (w_holes (xs (v4 + (1 : Int32)).toNatClampNeg) σ).bind fun q98 =>
      let w99 := q98.1
      if (v4 + (1 : Int32)) < 0 ∨ L ≤ (v4 + (1 : Int32)).toNatClampNeg then none else
      (f_Mo_holes_60 (xs (v4 + (1 : Int32)).toNatClampNeg) q98.2).bind fun q100 =>
      let w101 := q100.1
      (f_Mo_thrown_60  q100.2).bind fun q102 =>
      if q102.1 = w99 then
        if w99 = 0 then
          if (lg_cmp (q102.2.2 96 0) w101.toInt64) = 0 then
            let w104 := v4 + (6 : Int32)
            some (.inr (w104, q102.2))
          else
            none
        else
          let w103 := v4 + (6 : Int32)
          some (.inr (w103, q102.2))
      else
        none
    else if ((xs v4.toNatClampNeg) &&& (63 : Int32)) = (20 : Int32) then
      if (v4 + (1 : Int32)) < 0 ∨ L ≤ (v4 + (1 : Int32)).toNatClampNeg then none else
      if (v4 + (2 : Int32)) < 0 ∨ L ≤ (v4 + (2 : Int32)).toNatClampNeg then none else
      (w_light (xs (v4 + (1 : Int32)).toNatClampNeg) (xs (v4 + (2 : Int32)).toNatClampNeg) σ).bind fun q105 =>
      let w106 := q105.1
      if (v4 + (1 : Int32)) < 0 ∨ L ≤ (v4 + (1 : Int32)).toNatClampNeg then none else
      if (v4 + (2 : Int32)) < 0 ∨ L ≤ (v4 + (2 : Int32)).toNatClampNeg then none else
      (f_Mo_light_60 (xs (v4 + (1 : Int32)).toNatClampNeg) (xs (v4 + (2 : Int32)).toNatClampNeg) q105.2).bind fun q107 =>
      let w108 := q107.1
      (f_Mo_thrown_60  q107.2).bind fun q109 =>
      if q109.1 = w106 then
        if w106 = 0 then
          if (lg_cmp (q109.2.2 96 0) w108.toInt64) = 0 then
            let w111 := v4 + (6 : Int32)
            some (.inr (w111, q109.2))
          else
            none
        else
          let w110 := v4 + (6 : Int32)
          some (.inr (w110, q109.2))
      else
        none
    else if ((xs v4.toNatClampNeg) &&& (63 : Int32)) = (21 : Int32) then
      (f_RH_both_0  σ).bind fun q112 =>
      (f_Mo_both_60  q112.2).bind fun q113 =>
      if q112.1 = q113.1 then
        let w114 := v4 + (6 : Int32)
        some (.inr (w114, q113.2))
      else
        none
    else if ((xs v4.toNatClampNeg) &&& (63 : Int32)) = (22 : Int32) then
      if (v4 + (1 : Int32)) < 0 ∨ L ≤ (v4 + (1 : Int32)).toNatClampNeg then none else
      (w_marks (xs (v4 + (1 : Int32)).toNatClampNeg) σ).bind fun q115 =>
      let w116 := q115.1
      if (v4 + (1 : Int32)) < 0 ∨ L ≤ (v4 + (1 : Int32)).toNatClampNeg then none else
      (f_Mo_marks_60 (xs (v4 + (1 : Int32)).toNatClampNeg) q115.2).bind fun q117 =>
      let w118 := q117.1
      (f_Mo_thrown_60  q117.2).bind fun q119 =>
      if q119.1 = w116 then
        if w116 = 0 then
          if (lg_cmp (q119.2.2 96 0) w118.toInt64) = 0 then
            let w121 := v4 + (6 : Int32)
            some (.inr (w121, q119.2))
          else
            none
        else
          let w120 := v4 + (6 : Int32)
          some (.inr (w120, q119.2))
      else
        none
    else if ((xs v4.toNatClampNeg) &&& (63 : Int32)) = (23 : Int32) then
      if (v4 + (1 : Int32)) < 0 ∨ L ≤ (v4 + (1 : Int32)).toNatClampNeg then none else
      (w_kept (xs (v4 + (1 : Int32)).toNatClampNeg) σ).bind fun q122 =>
      let w123 := q122.1
      if (v4 + (1 : Int32)) < 0 ∨ L ≤ (v4 + (1 : Int32)).toNatClampNeg then none else
      (f_Mo_kept_60 (xs (v4 + (1 : Int32)).toNatClampNeg) q122.2).bind fun q124 =>
      let w125 := q124.1
      (f_Mo_thrown_60  q124.2).bind fun q126 =>
      if q126.1 = w123 then
        if w123 = 0 then
          if (lg_cmp (q126.2.2 96 0) w125.toInt64) = 0 then
            let w128 := v4 + (6 : Int32)
            some (.inr (w128, q126.2))
          else
            none
        else
          let w127 := v4 + (6 : Int32)
          some (.inr (w127, q126.2))
      else
        none
    else if ((xs v4.toNatClampNeg) &&& (63 : Int32)) = (24 : Int32) then
      if (v4 + (1 : Int32)) < 0 ∨ L ≤ (v4 + (1 : Int32)).toNatClampNeg then none else
      if (v4 + (2 : Int32)) < 0 ∨ L ≤ (v4 + (2 : Int32)).toNatClampNeg then none else
      if (v4 + (3 : Int32)) < 0 ∨ L ≤ (v4 + (3 : Int32)).toNatClampNeg then none else
      if (v4 + (4 : Int32)) < 0 ∨ L ≤ (v4 + (4 : Int32)).toNatClampNeg then none else
      if (v4 + (5 : Int32)) < 0 ∨ L ≤ (v4 + (5 : Int32)).toNatClampNeg then none else
      (w_takes (xs (v4 + (1 : Int32)).toNatClampNeg) (xs (v4 + (2 : Int32)).toNatClampNeg) (xs (v4 + (3 : Int32)).toNatClampNeg) (xs (v4 + (4 : Int32)).toNatClampNeg) (xs (v4 + (5 : Int32)).toNatClampNeg) σ).bind fun q129 =>
      let w130 := q129.1
      if (v4 + (1 : Int32)) < 0 ∨ L ≤ (v4 + (1 : Int32)).toNatClampNeg then none else
      if (v4 + (2 : Int32)) < 0 ∨ L ≤ (v4 + (2 : Int32)).toNatClampNeg then none else
      if (v4 + (3 : Int32)) < 0 ∨ L ≤ (v4 + (3 : Int32)).toNatClampNeg then none else
      if (v4 + (4 : Int32)) < 0 ∨ L ≤ (v4 + (4 : Int32)).toNatClampNeg then none else
      if (v4 + (5 : Int32)) < 0 ∨ L ≤ (v4 + (5 : Int32)).toNatClampNeg then none else
      (f_Mo_takes_60 (xs (v4 + (1 : Int32)).toNatClampNeg) (xs (v4 + (2 : Int32)).toNatClampNeg) (xs (v4 + (3 : Int32)).toNatClampNeg) (xs (v4 + (4 : Int32)).toNatClampNeg) (xs (v4 + (5 : Int32)).toNatClampNeg) q129.2).bind fun q131 =>
      let w132 := q131.1
      (f_Mo_thrown_60  q131.2).bind fun q133 =>
      if q133.1 = w130 then
        if w130 = 0 then
          if (lg_cmp (q133.2.2 96 0) w132.toInt64) = 0 then
            let w135 := v4 + (6 : Int32)
            some (.inr (w135, q133.2))
          else
            none
        else
          let w134 := v4 + (6 : Int32)
          some (.inr (w134, q133.2))
      else
        none
    else if ((xs v4.toNatClampNeg) &&& (63 : Int32)) = (25 : Int32) then
      if (v4 + (1 : Int32)) < 0 ∨ L ≤ (v4 + (1 : Int32)).toNatClampNeg then none else
      if (v4 + (2 : Int32)) < 0 ∨ L ≤ (v4 + (2 : Int32)).toNatClampNeg then none else
      if (xs (v4 + (2 : Int32)).toNatClampNeg) = 0 then
        (w_see (xs (v4 + (1 : Int32)).toNatClampNeg) (0 : Int32) σ).bind fun q136 =>
        let w137 := q136.1
        if (v4 + (1 : Int32)) < 0 ∨ L ≤ (v4 + (1 : Int32)).toNatClampNeg then none else
        if (v4 + (2 : Int32)) < 0 ∨ L ≤ (v4 + (2 : Int32)).toNatClampNeg then none else
        if (xs (v4 + (2 : Int32)).toNatClampNeg) = 0 then
          (f_Mo_see_60 (xs (v4 + (1 : Int32)).toNatClampNeg) (0 : Int32) q136.2).bind fun q138 =>
          let w139 := q138.1
          (f_Mo_thrown_60  q138.2).bind fun q140 =>
          if q140.1 = w137 then
            if w137 = 0 then
              if (lg_cmp (q140.2.2 96 0) w139.toInt64) = 0 then
                let w142 := v4 + (6 : Int32)
                some (.inr (w142, q140.2))
              else
                none
            else
              let w141 := v4 + (6 : Int32)
              some (.inr (w141, q140.2))
          else
            none
        else
          (f_Mo_see_60 (xs (v4 + (1 : Int32)).toNatClampNeg) (1 : Int32) q136.2).bind fun q143 =>
          let w144 := q143.1
          (f_Mo_thrown_60  q143.2).bind fun q145 =>
          if q145.1 = w137 then
            if w137 = 0 then
              if (lg_cmp (q145.2.2 96 0) w144.toInt64) = 0 then
                let w147 := v4 + (6 : Int32)
                some (.inr (w147, q145.2))
              else
                none
            else
              let w146 := v4 + (6 : Int32)
              some (.inr (w146, q145.2))
          else
            none
      else
        (w_see (xs (v4 + (1 : Int32)).toNatClampNeg) (1 : Int32) σ).bind fun q148 =>
        let w149 := q148.1
        if (v4 + (1 : Int32)) < 0 ∨ L ≤ (v4 + (1 : Int32)).toNatClampNeg then none else
        if (v4 + (2 : Int32)) < 0 ∨ L ≤ (v4 + (2 : Int32)).toNatClampNeg then none else
        if (xs (v4 + (2 : Int32)).toNatClampNeg) = 0 then
          (f_Mo_see_60 (xs (v4 + (1 : Int32)).toNatClampNeg) (0 : Int32) q148.2).bind fun q150 =>
          let w151 := q150.1
          (f_Mo_thrown_60  q150.2).bind fun q152 =>
          if q152.1 = w149 then
            if w149 = 0 then
              if (lg_cmp (q152.2.2 96 0) w151.toInt64) = 0 then
                let w154 := v4 + (6 : Int32)
                some (.inr (w154, q152.2))
              else
                none
            else
              let w153 := v4 + (6 : Int32)
              some (.inr (w153, q152.2))
          else
            none
        else
          (f_Mo_see_60 (xs (v4 + (1 : Int32)).toNatClampNeg) (1 : Int32) q148.2).bind fun q155 =>
          let w156 := q155.1
          (f_Mo_thrown_60  q155.2).bind fun q157 =>
          if q157.1 = w149 then
            if w149 = 0 then
              if (lg_cmp (q157.2.2 96 0) w156.toInt64) = 0 then
                let w159 := v4 + (6 : Int32)
                some (.inr (w159, q157.2))
              else
                none
            else
              let w158 := v4 + (6 : Int32)
              some (.inr (w158, q157.2))
          else
            none
    else if ((xs v4.toNatClampNeg) &&& (63 : Int32)) = (26 : Int32) then
      if (v4 + (1 : Int32)) < 0 ∨ L ≤ (v4 + (1 : Int32)).toNatClampNeg then none else
      (w_fits (xs (v4 + (1 : Int32)).toNatClampNeg) σ).bind fun q160 =>
      let w161 := q160.1
      if (v4 + (1 : Int32)) < 0 ∨ L ≤ (v4 + (1 : Int32)).toNatClampNeg then none else
      (f_Mo_fits_60 (xs (v4 + (1 : Int32)).toNatClampNeg) q160.2).bind fun q162 =>
      let w163 := q162.1
      (f_Mo_thrown_60  q162.2).bind fun q164 =>
      if q164.1 = w161 then
        if w161 = 0 then
          if (lg_cmp (q164.2.2 96 0) w163.toInt64) = 0 then
            let w166 := v4 + (6 : Int32)
            some (.inr (w166, q164.2))
          else
            none
        else
          let w165 := v4 + (6 : Int32)
          some (.inr (w165, q164.2))
      else
        none
    else if ((xs v4.toNatClampNeg) &&& (63 : Int32)) = (27 : Int32) then
      if (v4 + (1 : Int32)) < 0 ∨ L ≤ (v4 + (1 : Int32)).toNatClampNeg then none else
      (f_RH_book_0 (xs (v4 + (1 : Int32)).toNatClampNeg) σ).bind fun q167 =>
      if (v4 + (1 : Int32)) < 0 ∨ L ≤ (v4 + (1 : Int32)).toNatClampNeg then none else
      (f_Mo_book_60 (xs (v4 + (1 : Int32)).toNatClampNeg) q167.2).bind fun q168 =>
      if q167.1 = q168.1 then
        let w169 := v4 + (6 : Int32)
        some (.inr (w169, q168.2))
      else
        none
    else if ((xs v4.toNatClampNeg) &&& (63 : Int32)) = (28 : Int32) then
      if (v4 + (1 : Int32)) < 0 ∨ L ≤ (v4 + (1 : Int32)).toNatClampNeg then none else
      if (v4 + (2 : Int32)) < 0 ∨ L ≤ (v4 + (2 : Int32)).toNatClampNeg then none else
      (w_next (xs (v4 + (1 : Int32)).toNatClampNeg) (xs (v4 + (2 : Int32)).toNatClampNeg) σ).bind fun q170 =>
      let w171 := q170.1
      if (v4 + (1 : Int32)) < 0 ∨ L ≤ (v4 + (1 : Int32)).toNatClampNeg then none else
      if (v4 + (2 : Int32)) < 0 ∨ L ≤ (v4 + (2 : Int32)).toNatClampNeg then none else
      (f_Mo_next_60 (xs (v4 + (1 : Int32)).toNatClampNeg) (xs (v4 + (2 : Int32)).toNatClampNeg) q170.2).bind fun q172 =>
      let w173 := q172.1
      (f_Mo_thrown_60  q172.2).bind fun q174 =>
      if q174.1 = w171 then
        if w171 = 0 then
          if (lg_cmp (q174.2.2 96 0) w173.toInt64) = 0 then
            let w176 := v4 + (6 : Int32)
            some (.inr (w176, q174.2))
          else
            none
        else
          let w175 := v4 + (6 : Int32)
          some (.inr (w175, q174.2))
      else
        none
    else if ((xs v4.toNatClampNeg) &&& (63 : Int32)) = (29 : Int32) then
      if (v4 + (1 : Int32)) < 0 ∨ L ≤ (v4 + (1 : Int32)).toNatClampNeg then none else
      (w_middle (xs (v4 + (1 : Int32)).toNatClampNeg) σ).bind fun q177 =>
      let w178 := q177.1
      if (v4 + (1 : Int32)) < 0 ∨ L ≤ (v4 + (1 : Int32)).toNatClampNeg then none else
      (f_Mo_middle_60 (xs (v4 + (1 : Int32)).toNatClampNeg) q177.2).bind fun q179 =>
      let w180 := q179.1
      (f_Mo_thrown_60  q179.2).bind fun q181 =>
      if q181.1 = w178 then
        if w178 = 0 then
          if (lg_cmp (q181.2.2 96 0) w180.toInt64) = 0 then
            let w183 := v4 + (6 : Int32)
            some (.inr (w183, q181.2))
          else
            none
        else
          let w182 := v4 + (6 : Int32)
          some (.inr (w182, q181.2))
      else
        none
    else if ((xs v4.toNatClampNeg) &&& (63 : Int32)) = (30 : Int32) then
      (f_RH_forget_0  σ).bind fun q184 =>
      (f_Mo_forget_60  q184.2).bind fun q185 =>
      let w186 := v4 + (6 : Int32)
      some (.inr (w186, q185.2))
    else if ((xs v4.toNatClampNeg) &&& (63 : Int32)) = (31 : Int32) then
      if (v4 + (1 : Int32)) < 0 ∨ L ≤ (v4 + (1 : Int32)).toNatClampNeg then none else
      if (v4 + (2 : Int32)) < 0 ∨ L ≤ (v4 + (2 : Int32)).toNatClampNeg then none else
      (w_runs (xs (v4 + (1 : Int32)).toNatClampNeg) (xs (v4 + (2 : Int32)).toNatClampNeg) σ).bind fun q187 =>
      let w188 := q187.1
      if (v4 + (1 : Int32)) < 0 ∨ L ≤ (v4 + (1 : Int32)).toNatClampNeg then none else
      if (v4 + (2 : Int32)) < 0 ∨ L ≤ (v4 + (2 : Int32)).toNatClampNeg then none else
      (f_Mo_runs_60 (xs (v4 + (1 : Int32)).toNatClampNeg) (xs (v4 + (2 : Int32)).toNatClampNeg) q187.2).bind fun q189 =>
      let w190 := q189.1
      (f_Mo_thrown_60  q189.2).bind fun q191 =>
      if q191.1 = w188 then
        if w188 = 0 then
          if (lg_cmp (q191.2.2 96 0) w190.toInt64) = 0 then
            let w193 := v4 + (6 : Int32)
            some (.inr (w193, q191.2))
          else
            none
        else
          let w192 := v4 + (6 : Int32)
          some (.inr (w192, q191.2))
      else
        none
    else if ((xs v4.toNatClampNeg) &&& (63 : Int32)) = (32 : Int32) then
      (f_RH_cure_0  σ).bind fun q194 =>
      (f_Mo_cure_60  q194.2).bind fun q195 =>
      if q194.1 = q195.1 then
        let w196 := v4 + (6 : Int32)
        some (.inr (w196, q195.2))
      else
        none
    else if ((xs v4.toNatClampNeg) &&& (63 : Int32)) = (33 : Int32) then
      (f_RH_wrists_0  σ).bind fun q197 =>
      (f_Mo_wrists_60  q197.2).bind fun q198 =>
      if q197.1 = q198.1 then
        let w199 := v4 + (6 : Int32)
        some (.inr (w199, q198.2))
      else
        none
    else if ((xs v4.toNatClampNeg) &&& (63 : Int32)) = (34 : Int32) then
      (f_RH_learn_0  σ).bind fun q200 =>
      (f_Mo_learn_60  q200.2).bind fun q201 =>
      if q200.1 = q201.1 then
        let w202 := v4 + (6 : Int32)
        some (.inr (w202, q201.2))
      else
        none
    else if ((xs v4.toNatClampNeg) &&& (63 : Int32)) = (35 : Int32) then
      if (v4 + (1 : Int32)) < 0 ∨ L ≤ (v4 + (1 : Int32)).toNatClampNeg then none else
      (w_shift (xs (v4 + (1 : Int32)).toNatClampNeg) σ).bind fun q203 =>
      let w204 := q203.1
      if (v4 + (1 : Int32)) < 0 ∨ L ≤ (v4 + (1 : Int32)).toNatClampNeg then none else
      (f_Mo_shift_60 (xs (v4 + (1 : Int32)).toNatClampNeg) q203.2).bind fun q205 =>
      let w206 := q205.1
      (f_Mo_thrown_60  q205.2).bind fun q207 =>
      if q207.1 = w204 then
        if w204 = 0 then
          if (lg_cmp (q207.2.2 96 0) w206.toInt64) = 0 then
            let w209 := v4 + (6 : Int32)
            some (.inr (w209, q207.2))
          else
            none
        else
          let w208 := v4 + (6 : Int32)
          some (.inr (w208, q207.2))
      else
        none
    else if ((xs v4.toNatClampNeg) &&& (63 : Int32)) = (36 : Int32) then
      if (v4 + (1 : Int32)) < 0 ∨ L ≤ (v4 + (1 : Int32)).toNatClampNeg then none else
      (w_slip (xs (v4 + (1 : Int32)).toNatClampNeg) σ).bind fun q210 =>
      let w211 := q210.1
      if (v4 + (1 : Int32)) < 0 ∨ L ≤ (v4 + (1 : Int32)).toNatClampNeg then none else
      (f_Mo_slip_60 (xs (v4 + (1 : Int32)).toNatClampNeg) q210.2).bind fun q212 =>
      let w213 := q212.1
      (f_Mo_thrown_60  q212.2).bind fun q214 =>
      if q214.1 = w211 then
        if w211 = 0 then
          if (lg_cmp (q214.2.2 96 0) w213.toInt64) = 0 then
            let w216 := v4 + (6 : Int32)
            some (.inr (w216, q214.2))
          else
            none
        else
          let w215 := v4 + (6 : Int32)
          some (.inr (w215, q214.2))
      else
        none
    else if ((xs v4.toNatClampNeg) &&& (63 : Int32)) = (37 : Int32) then
      if (v4 + (1 : Int32)) < 0 ∨ L ≤ (v4 + (1 : Int32)).toNatClampNeg then none else
      (w_lags (xs (v4 + (1 : Int32)).toNatClampNeg) σ).bind fun q217 =>
      let w218 := q217.1
      if (v4 + (1 : Int32)) < 0 ∨ L ≤ (v4 + (1 : Int32)).toNatClampNeg then none else
      (f_Mo_lags_60 (xs (v4 + (1 : Int32)).toNatClampNeg) q217.2).bind fun q219 =>
      let w220 := q219.1
      (f_Mo_thrown_60  q219.2).bind fun q221 =>
      if q221.1 = w218 then
        if w218 = 0 then
          if (lg_cmp (q221.2.2 96 0) w220.toInt64) = 0 then
            let w223 := v4 + (6 : Int32)
            some (.inr (w223, q221.2))
          else
            none
        else
          let w222 := v4 + (6 : Int32)
          some (.inr (w222, q221.2))
      else
        none
    else if ((xs v4.toNatClampNeg) &&& (63 : Int32)) = (38 : Int32) then
      if (v4 + (1 : Int32)) < 0 ∨ L ≤ (v4 + (1 : Int32)).toNatClampNeg then none else
      if (v4 + (2 : Int32)) < 0 ∨ L ≤ (v4 + (2 : Int32)).toNatClampNeg then none else
      (w_depth (xs (v4 + (1 : Int32)).toNatClampNeg) (xs (v4 + (2 : Int32)).toNatClampNeg) σ).bind fun q224 =>
      let w225 := q224.1
      if (v4 + (1 : Int32)) < 0 ∨ L ≤ (v4 + (1 : Int32)).toNatClampNeg then none else
      if (v4 + (2 : Int32)) < 0 ∨ L ≤ (v4 + (2 : Int32)).toNatClampNeg then none else
      (f_Mo_depth_60 (xs (v4 + (1 : Int32)).toNatClampNeg) (xs (v4 + (2 : Int32)).toNatClampNeg) q224.2).bind fun q226 =>
      let w227 := q226.1
      (f_Mo_thrown_60  q226.2).bind fun q228 =>
      if q228.1 = w225 then
        if w225 = 0 then
          if (lg_cmp (q228.2.2 96 0) w227.toInt64) = 0 then
            let w230 := v4 + (6 : Int32)
            some (.inr (w230, q228.2))
          else
            none
        else
          let w229 := v4 + (6 : Int32)
          some (.inr (w229, q228.2))
      else
        none
    else if ((xs v4.toNatClampNeg) &&& (63 : Int32)) = (39 : Int32) then
      if (v4 + (1 : Int32)) < 0 ∨ L ≤ (v4 + (1 : Int32)).toNatClampNeg then none else
      (w_shots (xs (v4 + (1 : Int32)).toNatClampNeg) σ).bind fun q231 =>
      let w232 := q231.1
      if (v4 + (1 : Int32)) < 0 ∨ L ≤ (v4 + (1 : Int32)).toNatClampNeg then none else
      (f_Mo_shots_60 (xs (v4 + (1 : Int32)).toNatClampNeg) q231.2).bind fun q233 =>
      let w234 := q233.1
      (f_Mo_thrown_60  q233.2).bind fun q235 =>
      if q235.1 = w232 then
        if w232 = 0 then
          if (lg_cmp (q235.2.2 96 0) w234.toInt64) = 0 then
            let w237 := v4 + (6 : Int32)
            some (.inr (w237, q235.2))
          else
            none
        else
          let w236 := v4 + (6 : Int32)
          some (.inr (w236, q235.2))
      else
        none
    else if ((xs v4.toNatClampNeg) &&& (63 : Int32)) = (40 : Int32) then
      if (v4 + (1 : Int32)) < 0 ∨ L ≤ (v4 + (1 : Int32)).toNatClampNeg then none else
      (w_quickest (xs (v4 + (1 : Int32)).toNatClampNeg) σ).bind fun q238 =>
      let w239 := q238.1
      if (v4 + (1 : Int32)) < 0 ∨ L ≤ (v4 + (1 : Int32)).toNatClampNeg then none else
      (f_Mo_quickest_60 (xs (v4 + (1 : Int32)).toNatClampNeg) q238.2).bind fun q240 =>
      let w241 := q240.1
      (f_Mo_thrown_60  q240.2).bind fun q242 =>
      if q242.1 = w239 then
        if w239 = 0 then
          if (lg_cmp (q242.2.2 96 0) w241.toInt64) = 0 then
            let w244 := v4 + (6 : Int32)
            some (.inr (w244, q242.2))
          else
            none
        else
          let w243 := v4 + (6 : Int32)
          some (.inr (w243, q242.2))
      else
        none
    else if ((xs v4.toNatClampNeg) &&& (63 : Int32)) = (41 : Int32) then
      (f_RH_image_0  σ).bind fun q245 =>
      (f_Mo_image_60  q245.2).bind fun q246 =>
      let w247 := v4 + (6 : Int32)
      some (.inr (w247, q246.2))
    else if ((xs v4.toNatClampNeg) &&& (63 : Int32)) = (42 : Int32) then
      (f_RH_restore_0  σ).bind fun q248 =>
      (f_Mo_restore_60  q248.2).bind fun q249 =>
      if q248.1 = q249.1 then
        let w250 := v4 + (6 : Int32)
        some (.inr (w250, q249.2))
      else
        none
    else 
      let w251 := v4 + (6 : Int32)
      some (.inr (w251, σ))
set_option maxHeartbeats 8000000 in
set_option maxRecDepth 100000 in
theorem b_law {l : Launch} {s0 : State} {a0 : Array Value} {D : va_G} {cA : Nat → ClassId} {sp : Nat → Nat} (E : x_En CL l s0 a0 D cA sp) (S : x_Sw s0 sp) {xs : Nat → Int32} {L : Nat} (Z : x_Sc s0 sp L xs) {bc bs : Nat} (a : Int32 × xS) (o : (Int32 × xS) ⊕ (Int32 × xS)) (h : f_law xs L a = some o) (hK : ∀ b, o = .inl b → zW l s0 D cA sp (x_QL s0) room_1 M_La_law (bc + 1) (bs + 6) 2211 [none, none, none, none, none, none, none] [] b.2) (hG : ∀ a', o = .inr a' → zW l s0 D cA sp (x_QL s0) room_1 M_La_law bc bs 23 [some (.ref 1500), some (.ref 0), some (.ref 60), some (.ref 96), some (.int a'.1), none, none] [] a'.2) : zW l s0 D cA sp (x_QL s0) room_1 M_La_law (bc + 1) (bs + 6) 23 [some (.ref 1500), some (.ref 0), some (.ref 60), some (.ref 96), some (.int a.1), none, none] [] a.2 := by
  obtain ⟨v4, σ⟩ := a
  unfold f_law at h
  try dsimp only at h ⊢
  refine x_iload 25 rfl dL_law_23 rfl ?_
  refine x_aload_n 26 rfl 0 dL_law_25 rfl rfl ?_
  refine z_slen0 Z dL_law_26 27 rfl ?_
  refine x_bipush 29 rfl (v := 6) dL_law_27 (by decide) ?_
  refine x_isub 30 rfl dL_law_29 ?_
  refine x_icmp_gt 33 rfl 2211 dL_law_30 (by decide) (fun hc => ?_) (fun hc => ?_)
  · replace h := x_ifT hc h
    cases h
    exact x_wk (x_le_n (x_le_n (x_le_n (x_le_n (x_le_n (x_le_n (x_le_n x_le_0))))))) (hK (_, _) rfl)
  · replace h := x_ifF hc h
    refine x_aload_n 34 rfl 0 dL_law_33 rfl rfl ?_
    refine x_iload 36 rfl dL_law_34 rfl ?_
    obtain ⟨hz, h⟩ := x_ifn h
    refine z_sald Z dL_law_36 hz 37 rfl ?_
    refine x_bipush 39 rfl (v := 63) dL_law_37 (by decide) ?_
    refine x_iand 40 rfl dL_law_39 ?_
    refine x_case (0) (fun hc0 => ?_) (fun hc0 => ?_)
    · replace h := x_ifT hc0 h
      refine x_tabIn (off := 188) 228 dL_law_40 (by rw [hc0]; decide) (by rw [hc0]; decide) (by rw [hc0]; rfl) (by decide) ?_
      refine x_aload_n 229 rfl 1 dL_law_228 rfl rfl ?_
      refine x_aload_n 230 rfl 0 dL_law_229 rfl rfl ?_
      refine x_iload 232 rfl dL_law_230 rfl ?_
      refine x_iconst 233 rfl (v := 1) dL_law_232 (by decide) ?_
      refine x_iadd 234 rfl dL_law_233 ?_
      obtain ⟨hz, h⟩ := x_ifn h
      refine z_sald Z dL_law_234 hz 235 rfl ?_
      refine x_aload_n 236 rfl 0 dL_law_235 rfl rfl ?_
      refine x_iload 238 rfl dL_law_236 rfl ?_
      refine x_iconst 239 rfl (v := 2) dL_law_238 (by decide) ?_
      refine x_iadd 240 rfl dL_law_239 ?_
      obtain ⟨hz, h⟩ := x_ifn h
      refine z_sald Z dL_law_240 hz 241 rfl ?_
      refine x_aload_n 242 rfl 0 dL_law_241 rfl rfl ?_
      refine x_iload 244 rfl dL_law_242 rfl ?_
      refine x_iconst 245 rfl (v := 3) dL_law_244 (by decide) ?_
      refine x_iadd 246 rfl dL_law_245 ?_
      obtain ⟨hz, h⟩ := x_ifn h
      refine z_sald Z dL_law_246 hz 247 rfl ?_
      refine x_aload_n 248 rfl 0 dL_law_247 rfl rfl ?_
      refine x_iload 250 rfl dL_law_248 rfl ?_
      refine x_iconst 251 rfl (v := 4) dL_law_250 (by decide) ?_
      refine x_iadd 252 rfl dL_law_251 ?_
      obtain ⟨hz, h⟩ := x_ifn h
      refine z_sald Z dL_law_252 hz 253 rfl ?_
      refine x_aload_n 254 rfl 0 dL_law_253 rfl rfl ?_
      refine x_iload 256 rfl dL_law_254 rfl ?_
      refine x_iconst 257 rfl (v := 5) dL_law_256 (by decide) ?_
      refine x_iadd 258 rfl dL_law_257 ?_
      obtain ⟨hz, h⟩ := x_ifn h
      refine z_sald Z dL_law_258 hz 259 rfl ?_
      obtain ⟨⟨q1r, q1s⟩, q1h, h⟩ := x_bind h
      try dsimp only at h
      refine z_callV E [.int _, .int _, .int _, .int _, .int _] [] dL_law_259 K_RL_99 ⟨Nat.le_of_ble_eq_true rfl, Nat.le_of_ble_eq_true rfl⟩ sh_0 (by decide) rfl (c_RH_feed_0 E _ _ _ _ _ q1h) rfl rfl (Nat.le_of_ble_eq_true rfl) 262 rfl [.int _] rfl ?_
      refine x_aload_n 263 rfl 2 dL_law_262 rfl rfl ?_
      refine x_aload_n 264 rfl 0 dL_law_263 rfl rfl ?_
      refine x_iload 266 rfl dL_law_264 rfl ?_
      refine x_iconst 267 rfl (v := 1) dL_law_266 (by decide) ?_
      refine x_iadd 268 rfl dL_law_267 ?_
      obtain ⟨hz, h⟩ := x_ifn h
      refine z_sald Z dL_law_268 hz 269 rfl ?_
      refine x_aload_n 270 rfl 0 dL_law_269 rfl rfl ?_
      refine x_iload 272 rfl dL_law_270 rfl ?_
      refine x_iconst 273 rfl (v := 2) dL_law_272 (by decide) ?_
      refine x_iadd 274 rfl dL_law_273 ?_
      obtain ⟨hz, h⟩ := x_ifn h
      refine z_sald Z dL_law_274 hz 275 rfl ?_
      refine x_aload_n 276 rfl 0 dL_law_275 rfl rfl ?_
      refine x_iload 278 rfl dL_law_276 rfl ?_
      refine x_iconst 279 rfl (v := 3) dL_law_278 (by decide) ?_
      refine x_iadd 280 rfl dL_law_279 ?_
      obtain ⟨hz, h⟩ := x_ifn h
      refine z_sald Z dL_law_280 hz 281 rfl ?_
      refine x_aload_n 282 rfl 0 dL_law_281 rfl rfl ?_
      refine x_iload 284 rfl dL_law_282 rfl ?_
      refine x_iconst 285 rfl (v := 4) dL_law_284 (by decide) ?_
      refine x_iadd 286 rfl dL_law_285 ?_
      obtain ⟨hz, h⟩ := x_ifn h
      refine z_sald Z dL_law_286 hz 287 rfl ?_
      refine x_aload_n 288 rfl 0 dL_law_287 rfl rfl ?_
      refine x_iload 290 rfl dL_law_288 rfl ?_
      refine x_iconst 291 rfl (v := 5) dL_law_290 (by decide) ?_
      refine x_iadd 292 rfl dL_law_291 ?_
      obtain ⟨hz, h⟩ := x_ifn h
      refine z_sald Z dL_law_292 hz 293 rfl ?_
      obtain ⟨⟨q2r, q2s⟩, q2h, h⟩ := x_bind h
      try dsimp only at h
      refine z_callV E [.int _, .int _, .int _, .int _, .int _] [.int _] dL_law_293 K_RL_102 ⟨Nat.le_of_ble_eq_true rfl, Nat.le_of_ble_eq_true rfl⟩ sh_60 (by decide) rfl (c_Mo_feed_60 E _ _ _ _ _ q2h) rfl rfl (Nat.le_of_ble_eq_true rfl) 296 rfl [.int _, .int _] rfl ?_
      refine x_icmp_eq 299 rfl 2205 dL_law_296 (by decide) (fun hc => ?_) (fun hc => ?_)
      · replace h := x_ifT hc h
        refine x_iinc 2208 rfl (6) dL_law_2205 rfl (by decide) (by decide) [some (.ref 1500), some (.ref 0), some (.ref 60), some (.ref 96), some (.int _), none, none] rfl ?_
        refine x_goto 23 dL_law_2208 (by decide) ?_
        cases h
        exact x_wk (x_le_s (x_le_s (x_le_s (x_le_s (x_le_s (x_le_n (x_le_n x_le_0))))))) (x_less (Nat.le_succ _) (Nat.le_add_right _ _) (hG (_, _) rfl))
      · replace h := x_ifF hc h
        refine x_iconst 300 rfl (v := 0) dL_law_299 (by decide) ?_
        cases h
    replace h := x_ifF hc0 h
    refine x_case (1) (fun hc1 => ?_) (fun hc1 => ?_)
    · replace h := x_ifT hc1 h
      refine x_tabIn (off := 261) 301 dL_law_40 (by rw [hc1]; decide) (by rw [hc1]; decide) (by rw [hc1]; rfl) (by decide) ?_
      refine x_aload_n 302 rfl 1 dL_law_301 rfl rfl ?_
      refine x_aload_n 303 rfl 0 dL_law_302 rfl rfl ?_
      refine x_iload 305 rfl dL_law_303 rfl ?_
      refine x_iconst 306 rfl (v := 1) dL_law_305 (by decide) ?_
      refine x_iadd 307 rfl dL_law_306 ?_
      obtain ⟨hz, h⟩ := x_ifn h
      refine z_sald Z dL_law_307 hz 308 rfl ?_
      refine x_aload_n 309 rfl 3 dL_law_308 rfl rfl ?_
      obtain ⟨⟨q4r, q4s⟩, q4h, h⟩ := x_bind h
      try dsimp only at h
      refine z_callHd (bc := bc) (bs := bs) E [.ref 0, .int _, .ref 96] [] dL_law_309 KC_RL_103 ⟨(Nat.le_of_ble_eq_true rfl), (Nat.le_of_ble_eq_true rfl)⟩ rfl rfl (Nat.le_of_ble_eq_true rfl) rfl rfl (cw_scene E S _ q4h) 312 rfl [.int _] rfl ?_
      refine x_istore 314 rfl dL_law_312 (by decide) [some (.ref 1500), some (.ref 0), some (.ref 60), some (.ref 96), some (.int _), some (.int _), none] rfl ?_
      refine x_aload_n 315 rfl 2 dL_law_314 rfl rfl ?_
      refine x_aload_n 316 rfl 0 dL_law_315 rfl rfl ?_
      refine x_iload 318 rfl dL_law_316 rfl ?_
      refine x_iconst 319 rfl (v := 1) dL_law_318 (by decide) ?_
      refine x_iadd 320 rfl dL_law_319 ?_
      obtain ⟨hz, h⟩ := x_ifn h
      refine z_sald Z dL_law_320 hz 321 rfl ?_
      obtain ⟨⟨q6r, q6s⟩, q6h, h⟩ := x_bind h
      try dsimp only at h
      refine z_callV E [.int _] [] dL_law_321 K_RL_108 ⟨Nat.le_of_ble_eq_true rfl, Nat.le_of_ble_eq_true rfl⟩ sh_60 (by decide) rfl (c_Mo_scene_60 E _ q6h) rfl rfl (Nat.le_of_ble_eq_true rfl) 324 rfl [.int _] rfl ?_
      refine x_istore 326 rfl dL_law_324 (by decide) [some (.ref 1500), some (.ref 0), some (.ref 60), some (.ref 96), some (.int _), some (.int _), some (.int _)] rfl ?_
      refine x_aload_n 327 rfl 2 dL_law_326 rfl rfl ?_
      obtain ⟨⟨q8r, q8s⟩, q8h, h⟩ := x_bind h
      try dsimp only at h
      refine z_callV E [] [] dL_law_327 K_RL_109 ⟨Nat.le_of_ble_eq_true rfl, Nat.le_of_ble_eq_true rfl⟩ sh_60 (by decide) rfl (c_Mo_thrown_60 E  q8h) rfl rfl (Nat.le_of_ble_eq_true rfl) 330 rfl [.int _] rfl ?_
      refine x_iload 332 rfl dL_law_330 rfl ?_
      refine x_icmp_eq 335 rfl 337 dL_law_332 (by decide) (fun hc => ?_) (fun hc => ?_)
      · replace h := x_ifT hc h
        refine x_iload 339 rfl dL_law_337 rfl ?_
        refine x_if_ne 342 rfl 354 dL_law_339 (by decide) (fun hc => ?_) (fun hc => ?_)
        · replace h := x_ifF hc h
          refine x_goto 2205 dL_law_354 (by decide) ?_
          refine x_iinc 2208 rfl (6) dL_law_2205 rfl (by decide) (by decide) [some (.ref 1500), some (.ref 0), some (.ref 60), some (.ref 96), some (.int _), some (.int _), some (.int _)] rfl ?_
          refine x_goto 23 dL_law_2208 (by decide) ?_
          cases h
          exact x_wk (x_le_s (x_le_s (x_le_s (x_le_s (x_le_s (x_le_n (x_le_n x_le_0))))))) (hG (_, _) rfl)
        · replace h := x_ifT hc h
          refine x_aload_n 343 rfl 3 dL_law_342 rfl rfl ?_
          refine x_iconst 344 rfl (v := 0) dL_law_343 (by decide) ?_
          refine x_lald E dL_law_344 sh_96 0 (by decide) (by decide) 345 rfl ?_
          refine x_iload 347 rfl dL_law_345 rfl ?_
          refine x_i2l 348 rfl dL_law_347 ?_
          refine x_lcmp 349 rfl dL_law_348 ?_
          refine x_if_eq 352 rfl 354 dL_law_349 (by decide) (fun hc => ?_) (fun hc => ?_)
          · replace h := x_ifT hc h
            refine x_goto 2205 dL_law_354 (by decide) ?_
            refine x_iinc 2208 rfl (6) dL_law_2205 rfl (by decide) (by decide) [some (.ref 1500), some (.ref 0), some (.ref 60), some (.ref 96), some (.int _), some (.int _), some (.int _)] rfl ?_
            refine x_goto 23 dL_law_2208 (by decide) ?_
            cases h
            exact x_wk (x_le_s (x_le_s (x_le_s (x_le_s (x_le_s (x_le_n (x_le_n x_le_0))))))) (hG (_, _) rfl)
          · replace h := x_ifF hc h
            refine x_iconst 353 rfl (v := 0) dL_law_352 (by decide) ?_
            cases h
      · replace h := x_ifF hc h
        refine x_iconst 336 rfl (v := 0) dL_law_335 (by decide) ?_
        cases h
    replace h := x_ifF hc1 h
    refine x_case (2) (fun hc2 => ?_) (fun hc2 => ?_)
    · replace h := x_ifT hc2 h
      refine x_tabIn (off := 317) 357 dL_law_40 (by rw [hc2]; decide) (by rw [hc2]; decide) (by rw [hc2]; rfl) (by decide) ?_
      refine x_aload_n 358 rfl 1 dL_law_357 rfl rfl ?_
      obtain ⟨⟨q11r, q11s⟩, q11h, h⟩ := x_bind h
      try dsimp only at h
      refine z_callV E [] [] dL_law_358 K_RL_113 ⟨Nat.le_of_ble_eq_true rfl, Nat.le_of_ble_eq_true rfl⟩ sh_0 (by decide) rfl (c_RH_fault_0 E  q11h) rfl rfl (Nat.le_of_ble_eq_true rfl) 361 rfl [.int _] rfl ?_
      refine x_aload_n 362 rfl 2 dL_law_361 rfl rfl ?_
      obtain ⟨⟨q12r, q12s⟩, q12h, h⟩ := x_bind h
      try dsimp only at h
      refine z_callV E [] [.int _] dL_law_362 K_RL_116 ⟨Nat.le_of_ble_eq_true rfl, Nat.le_of_ble_eq_true rfl⟩ sh_60 (by decide) rfl (c_Mo_fault_60 E  q12h) rfl rfl (Nat.le_of_ble_eq_true rfl) 365 rfl [.int _, .int _] rfl ?_
      refine x_icmp_eq 368 rfl 2205 dL_law_365 (by decide) (fun hc => ?_) (fun hc => ?_)
      · replace h := x_ifT hc h
        refine x_iinc 2208 rfl (6) dL_law_2205 rfl (by decide) (by decide) [some (.ref 1500), some (.ref 0), some (.ref 60), some (.ref 96), some (.int _), none, none] rfl ?_
        refine x_goto 23 dL_law_2208 (by decide) ?_
        cases h
        exact x_wk (x_le_s (x_le_s (x_le_s (x_le_s (x_le_s (x_le_n (x_le_n x_le_0))))))) (x_less (Nat.le_succ _) (Nat.le_add_right _ _) (hG (_, _) rfl))
      · replace h := x_ifF hc h
        refine x_iconst 369 rfl (v := 0) dL_law_368 (by decide) ?_
        cases h
    replace h := x_ifF hc2 h
    refine x_case (3) (fun hc3 => ?_) (fun hc3 => ?_)
    · replace h := x_ifT hc3 h
      refine x_tabIn (off := 330) 370 dL_law_40 (by rw [hc3]; decide) (by rw [hc3]; decide) (by rw [hc3]; rfl) (by decide) ?_
      refine x_aload_n 371 rfl 1 dL_law_370 rfl rfl ?_
      refine x_aload_n 372 rfl 0 dL_law_371 rfl rfl ?_
      refine x_iload 374 rfl dL_law_372 rfl ?_
      refine x_iconst 375 rfl (v := 1) dL_law_374 (by decide) ?_
      refine x_iadd 376 rfl dL_law_375 ?_
      obtain ⟨hz, h⟩ := x_ifn h
      refine z_sald Z dL_law_376 hz 377 rfl ?_
      refine x_aload_n 378 rfl 3 dL_law_377 rfl rfl ?_
      obtain ⟨⟨q14r, q14s⟩, q14h, h⟩ := x_bind h
      try dsimp only at h
      refine z_callHd (bc := bc) (bs := bs) E [.ref 0, .int _, .ref 96] [] dL_law_378 KC_RL_117 ⟨(Nat.le_of_ble_eq_true rfl), (Nat.le_of_ble_eq_true rfl)⟩ rfl rfl (Nat.le_of_ble_eq_true rfl) rfl rfl (cw_count E _ q14h) 381 rfl [.int _] rfl ?_
      refine x_istore 383 rfl dL_law_381 (by decide) [some (.ref 1500), some (.ref 0), some (.ref 60), some (.ref 96), some (.int _), some (.int _), none] rfl ?_
      refine x_aload_n 384 rfl 2 dL_law_383 rfl rfl ?_
      refine x_aload_n 385 rfl 0 dL_law_384 rfl rfl ?_
      refine x_iload 387 rfl dL_law_385 rfl ?_
      refine x_iconst 388 rfl (v := 1) dL_law_387 (by decide) ?_
      refine x_iadd 389 rfl dL_law_388 ?_
      obtain ⟨hz, h⟩ := x_ifn h
      refine z_sald Z dL_law_389 hz 390 rfl ?_
      obtain ⟨⟨q16r, q16s⟩, q16h, h⟩ := x_bind h
      try dsimp only at h
      refine z_callV E [.int _] [] dL_law_390 K_RL_119 ⟨Nat.le_of_ble_eq_true rfl, Nat.le_of_ble_eq_true rfl⟩ sh_60 (by decide) rfl (c_Mo_count_60 E _ q16h) rfl rfl (Nat.le_of_ble_eq_true rfl) 393 rfl [.int _] rfl ?_
      refine x_istore 395 rfl dL_law_393 (by decide) [some (.ref 1500), some (.ref 0), some (.ref 60), some (.ref 96), some (.int _), some (.int _), some (.int _)] rfl ?_
      refine x_aload_n 396 rfl 2 dL_law_395 rfl rfl ?_
      obtain ⟨⟨q18r, q18s⟩, q18h, h⟩ := x_bind h
      try dsimp only at h
      refine z_callV E [] [] dL_law_396 K_RL_109 ⟨Nat.le_of_ble_eq_true rfl, Nat.le_of_ble_eq_true rfl⟩ sh_60 (by decide) rfl (c_Mo_thrown_60 E  q18h) rfl rfl (Nat.le_of_ble_eq_true rfl) 399 rfl [.int _] rfl ?_
      refine x_iload 401 rfl dL_law_399 rfl ?_
      refine x_icmp_eq 404 rfl 406 dL_law_401 (by decide) (fun hc => ?_) (fun hc => ?_)
      · replace h := x_ifT hc h
        refine x_iload 408 rfl dL_law_406 rfl ?_
        refine x_if_ne 411 rfl 423 dL_law_408 (by decide) (fun hc => ?_) (fun hc => ?_)
        · replace h := x_ifF hc h
          refine x_goto 2205 dL_law_423 (by decide) ?_
          refine x_iinc 2208 rfl (6) dL_law_2205 rfl (by decide) (by decide) [some (.ref 1500), some (.ref 0), some (.ref 60), some (.ref 96), some (.int _), some (.int _), some (.int _)] rfl ?_
          refine x_goto 23 dL_law_2208 (by decide) ?_
          cases h
          exact x_wk (x_le_s (x_le_s (x_le_s (x_le_s (x_le_s (x_le_n (x_le_n x_le_0))))))) (hG (_, _) rfl)
        · replace h := x_ifT hc h
          refine x_aload_n 412 rfl 3 dL_law_411 rfl rfl ?_
          refine x_iconst 413 rfl (v := 0) dL_law_412 (by decide) ?_
          refine x_lald E dL_law_413 sh_96 0 (by decide) (by decide) 414 rfl ?_
          refine x_iload 416 rfl dL_law_414 rfl ?_
          refine x_i2l 417 rfl dL_law_416 ?_
          refine x_lcmp 418 rfl dL_law_417 ?_
          refine x_if_eq 421 rfl 423 dL_law_418 (by decide) (fun hc => ?_) (fun hc => ?_)
          · replace h := x_ifT hc h
            refine x_goto 2205 dL_law_423 (by decide) ?_
            refine x_iinc 2208 rfl (6) dL_law_2205 rfl (by decide) (by decide) [some (.ref 1500), some (.ref 0), some (.ref 60), some (.ref 96), some (.int _), some (.int _), some (.int _)] rfl ?_
            refine x_goto 23 dL_law_2208 (by decide) ?_
            cases h
            exact x_wk (x_le_s (x_le_s (x_le_s (x_le_s (x_le_s (x_le_n (x_le_n x_le_0))))))) (hG (_, _) rfl)
          · replace h := x_ifF hc h
            refine x_iconst 422 rfl (v := 0) dL_law_421 (by decide) ?_
            cases h
      · replace h := x_ifF hc h
        refine x_iconst 405 rfl (v := 0) dL_law_404 (by decide) ?_
        cases h
    replace h := x_ifF hc3 h
    refine x_case (4) (fun hc4 => ?_) (fun hc4 => ?_)
    · replace h := x_ifT hc4 h
      refine x_tabIn (off := 386) 426 dL_law_40 (by rw [hc4]; decide) (by rw [hc4]; decide) (by rw [hc4]; rfl) (by decide) ?_
      refine x_aload_n 427 rfl 1 dL_law_426 rfl rfl ?_
      refine x_aload_n 428 rfl 0 dL_law_427 rfl rfl ?_
      refine x_iload 430 rfl dL_law_428 rfl ?_
      refine x_iconst 431 rfl (v := 1) dL_law_430 (by decide) ?_
      refine x_iadd 432 rfl dL_law_431 ?_
      obtain ⟨hz, h⟩ := x_ifn h
      refine z_sald Z dL_law_432 hz 433 rfl ?_
      refine x_aload_n 434 rfl 3 dL_law_433 rfl rfl ?_
      obtain ⟨⟨q21r, q21s⟩, q21h, h⟩ := x_bind h
      try dsimp only at h
      refine z_callHd (bc := bc) (bs := bs) E [.ref 0, .int _, .ref 96] [] dL_law_434 KC_RL_120 ⟨(Nat.le_of_ble_eq_true rfl), (Nat.le_of_ble_eq_true rfl)⟩ rfl rfl (Nat.le_of_ble_eq_true rfl) rfl rfl (cw_mark E _ q21h) 437 rfl [.int _] rfl ?_
      refine x_istore 439 rfl dL_law_437 (by decide) [some (.ref 1500), some (.ref 0), some (.ref 60), some (.ref 96), some (.int _), some (.int _), none] rfl ?_
      refine x_aload_n 440 rfl 2 dL_law_439 rfl rfl ?_
      refine x_aload_n 441 rfl 0 dL_law_440 rfl rfl ?_
      refine x_iload 443 rfl dL_law_441 rfl ?_
      refine x_iconst 444 rfl (v := 1) dL_law_443 (by decide) ?_
      refine x_iadd 445 rfl dL_law_444 ?_
      obtain ⟨hz, h⟩ := x_ifn h
      refine z_sald Z dL_law_445 hz 446 rfl ?_
      obtain ⟨⟨q23r, q23s⟩, q23h, h⟩ := x_bind h
      try dsimp only at h
      refine z_callV E [.int _] [] dL_law_446 K_RL_122 ⟨Nat.le_of_ble_eq_true rfl, Nat.le_of_ble_eq_true rfl⟩ sh_60 (by decide) rfl (c_Mo_mark_60 E _ q23h) rfl rfl (Nat.le_of_ble_eq_true rfl) 449 rfl [.int _] rfl ?_
      refine x_istore 451 rfl dL_law_449 (by decide) [some (.ref 1500), some (.ref 0), some (.ref 60), some (.ref 96), some (.int _), some (.int _), some (.int _)] rfl ?_
      refine x_aload_n 452 rfl 2 dL_law_451 rfl rfl ?_
      obtain ⟨⟨q25r, q25s⟩, q25h, h⟩ := x_bind h
      try dsimp only at h
      refine z_callV E [] [] dL_law_452 K_RL_109 ⟨Nat.le_of_ble_eq_true rfl, Nat.le_of_ble_eq_true rfl⟩ sh_60 (by decide) rfl (c_Mo_thrown_60 E  q25h) rfl rfl (Nat.le_of_ble_eq_true rfl) 455 rfl [.int _] rfl ?_
      refine x_iload 457 rfl dL_law_455 rfl ?_
      refine x_icmp_eq 460 rfl 462 dL_law_457 (by decide) (fun hc => ?_) (fun hc => ?_)
      · replace h := x_ifT hc h
        refine x_iload 464 rfl dL_law_462 rfl ?_
        refine x_if_ne 467 rfl 479 dL_law_464 (by decide) (fun hc => ?_) (fun hc => ?_)
        · replace h := x_ifF hc h
          refine x_goto 2205 dL_law_479 (by decide) ?_
          refine x_iinc 2208 rfl (6) dL_law_2205 rfl (by decide) (by decide) [some (.ref 1500), some (.ref 0), some (.ref 60), some (.ref 96), some (.int _), some (.int _), some (.int _)] rfl ?_
          refine x_goto 23 dL_law_2208 (by decide) ?_
          cases h
          exact x_wk (x_le_s (x_le_s (x_le_s (x_le_s (x_le_s (x_le_n (x_le_n x_le_0))))))) (hG (_, _) rfl)
        · replace h := x_ifT hc h
          refine x_aload_n 468 rfl 3 dL_law_467 rfl rfl ?_
          refine x_iconst 469 rfl (v := 0) dL_law_468 (by decide) ?_
          refine x_lald E dL_law_469 sh_96 0 (by decide) (by decide) 470 rfl ?_
          refine x_iload 472 rfl dL_law_470 rfl ?_
          refine x_i2l 473 rfl dL_law_472 ?_
          refine x_lcmp 474 rfl dL_law_473 ?_
          refine x_if_eq 477 rfl 479 dL_law_474 (by decide) (fun hc => ?_) (fun hc => ?_)
          · replace h := x_ifT hc h
            refine x_goto 2205 dL_law_479 (by decide) ?_
            refine x_iinc 2208 rfl (6) dL_law_2205 rfl (by decide) (by decide) [some (.ref 1500), some (.ref 0), some (.ref 60), some (.ref 96), some (.int _), some (.int _), some (.int _)] rfl ?_
            refine x_goto 23 dL_law_2208 (by decide) ?_
            cases h
            exact x_wk (x_le_s (x_le_s (x_le_s (x_le_s (x_le_s (x_le_n (x_le_n x_le_0))))))) (hG (_, _) rfl)
          · replace h := x_ifF hc h
            refine x_iconst 478 rfl (v := 0) dL_law_477 (by decide) ?_
            cases h
      · replace h := x_ifF hc h
        refine x_iconst 461 rfl (v := 0) dL_law_460 (by decide) ?_
        cases h
    replace h := x_ifF hc4 h
    refine x_case (5) (fun hc5 => ?_) (fun hc5 => ?_)
    · replace h := x_ifT hc5 h
      refine x_tabIn (off := 442) 482 dL_law_40 (by rw [hc5]; decide) (by rw [hc5]; decide) (by rw [hc5]; rfl) (by decide) ?_
      refine x_aload_n 483 rfl 1 dL_law_482 rfl rfl ?_
      refine x_aload_n 484 rfl 0 dL_law_483 rfl rfl ?_
      refine x_iload 486 rfl dL_law_484 rfl ?_
      refine x_iconst 487 rfl (v := 1) dL_law_486 (by decide) ?_
      refine x_iadd 488 rfl dL_law_487 ?_
      obtain ⟨hz, h⟩ := x_ifn h
      refine z_sald Z dL_law_488 hz 489 rfl ?_
      refine x_aload_n 490 rfl 0 dL_law_489 rfl rfl ?_
      refine x_iload 492 rfl dL_law_490 rfl ?_
      refine x_iconst 493 rfl (v := 2) dL_law_492 (by decide) ?_
      refine x_iadd 494 rfl dL_law_493 ?_
      obtain ⟨hz, h⟩ := x_ifn h
      refine z_sald Z dL_law_494 hz 495 rfl ?_
      refine x_aload_n 496 rfl 3 dL_law_495 rfl rfl ?_
      obtain ⟨⟨q28r, q28s⟩, q28h, h⟩ := x_bind h
      try dsimp only at h
      refine z_callHd (bc := bc) (bs := bs) E [.ref 0, .int _, .int _, .ref 96] [] dL_law_496 KC_RL_123 ⟨(Nat.le_of_ble_eq_true rfl), (Nat.le_of_ble_eq_true rfl)⟩ rfl rfl (Nat.le_of_ble_eq_true rfl) rfl rfl (cw_inches E _ _ q28h) 499 rfl [.int _] rfl ?_
      refine x_istore 501 rfl dL_law_499 (by decide) [some (.ref 1500), some (.ref 0), some (.ref 60), some (.ref 96), some (.int _), some (.int _), none] rfl ?_
      refine x_aload_n 502 rfl 2 dL_law_501 rfl rfl ?_
      refine x_aload_n 503 rfl 0 dL_law_502 rfl rfl ?_
      refine x_iload 505 rfl dL_law_503 rfl ?_
      refine x_iconst 506 rfl (v := 1) dL_law_505 (by decide) ?_
      refine x_iadd 507 rfl dL_law_506 ?_
      obtain ⟨hz, h⟩ := x_ifn h
      refine z_sald Z dL_law_507 hz 508 rfl ?_
      refine x_aload_n 509 rfl 0 dL_law_508 rfl rfl ?_
      refine x_iload 511 rfl dL_law_509 rfl ?_
      refine x_iconst 512 rfl (v := 2) dL_law_511 (by decide) ?_
      refine x_iadd 513 rfl dL_law_512 ?_
      obtain ⟨hz, h⟩ := x_ifn h
      refine z_sald Z dL_law_513 hz 514 rfl ?_
      obtain ⟨⟨q30r, q30s⟩, q30h, h⟩ := x_bind h
      try dsimp only at h
      refine z_callV E [.int _, .int _] [] dL_law_514 K_RL_126 ⟨Nat.le_of_ble_eq_true rfl, Nat.le_of_ble_eq_true rfl⟩ sh_60 (by decide) rfl (c_Mo_inches_60 E _ _ q30h) rfl rfl (Nat.le_of_ble_eq_true rfl) 517 rfl [.int _] rfl ?_
      refine x_istore 519 rfl dL_law_517 (by decide) [some (.ref 1500), some (.ref 0), some (.ref 60), some (.ref 96), some (.int _), some (.int _), some (.int _)] rfl ?_
      refine x_aload_n 520 rfl 2 dL_law_519 rfl rfl ?_
      obtain ⟨⟨q32r, q32s⟩, q32h, h⟩ := x_bind h
      try dsimp only at h
      refine z_callV E [] [] dL_law_520 K_RL_109 ⟨Nat.le_of_ble_eq_true rfl, Nat.le_of_ble_eq_true rfl⟩ sh_60 (by decide) rfl (c_Mo_thrown_60 E  q32h) rfl rfl (Nat.le_of_ble_eq_true rfl) 523 rfl [.int _] rfl ?_
      refine x_iload 525 rfl dL_law_523 rfl ?_
      refine x_icmp_eq 528 rfl 530 dL_law_525 (by decide) (fun hc => ?_) (fun hc => ?_)
      · replace h := x_ifT hc h
        refine x_iload 532 rfl dL_law_530 rfl ?_
        refine x_if_ne 535 rfl 547 dL_law_532 (by decide) (fun hc => ?_) (fun hc => ?_)
        · replace h := x_ifF hc h
          refine x_goto 2205 dL_law_547 (by decide) ?_
          refine x_iinc 2208 rfl (6) dL_law_2205 rfl (by decide) (by decide) [some (.ref 1500), some (.ref 0), some (.ref 60), some (.ref 96), some (.int _), some (.int _), some (.int _)] rfl ?_
          refine x_goto 23 dL_law_2208 (by decide) ?_
          cases h
          exact x_wk (x_le_s (x_le_s (x_le_s (x_le_s (x_le_s (x_le_n (x_le_n x_le_0))))))) (hG (_, _) rfl)
        · replace h := x_ifT hc h
          refine x_aload_n 536 rfl 3 dL_law_535 rfl rfl ?_
          refine x_iconst 537 rfl (v := 0) dL_law_536 (by decide) ?_
          refine x_lald E dL_law_537 sh_96 0 (by decide) (by decide) 538 rfl ?_
          refine x_iload 540 rfl dL_law_538 rfl ?_
          refine x_i2l 541 rfl dL_law_540 ?_
          refine x_lcmp 542 rfl dL_law_541 ?_
          refine x_if_eq 545 rfl 547 dL_law_542 (by decide) (fun hc => ?_) (fun hc => ?_)
          · replace h := x_ifT hc h
            refine x_goto 2205 dL_law_547 (by decide) ?_
            refine x_iinc 2208 rfl (6) dL_law_2205 rfl (by decide) (by decide) [some (.ref 1500), some (.ref 0), some (.ref 60), some (.ref 96), some (.int _), some (.int _), some (.int _)] rfl ?_
            refine x_goto 23 dL_law_2208 (by decide) ?_
            cases h
            exact x_wk (x_le_s (x_le_s (x_le_s (x_le_s (x_le_s (x_le_n (x_le_n x_le_0))))))) (hG (_, _) rfl)
          · replace h := x_ifF hc h
            refine x_iconst 546 rfl (v := 0) dL_law_545 (by decide) ?_
            cases h
      · replace h := x_ifF hc h
        refine x_iconst 529 rfl (v := 0) dL_law_528 (by decide) ?_
        cases h
    replace h := x_ifF hc5 h
    refine x_case (6) (fun hc6 => ?_) (fun hc6 => ?_)
    · replace h := x_ifT hc6 h
      refine x_tabIn (off := 510) 550 dL_law_40 (by rw [hc6]; decide) (by rw [hc6]; decide) (by rw [hc6]; rfl) (by decide) ?_
      refine x_aload_n 551 rfl 1 dL_law_550 rfl rfl ?_
      refine x_aload_n 552 rfl 0 dL_law_551 rfl rfl ?_
      refine x_iload 554 rfl dL_law_552 rfl ?_
      refine x_iconst 555 rfl (v := 1) dL_law_554 (by decide) ?_
      refine x_iadd 556 rfl dL_law_555 ?_
      obtain ⟨hz, h⟩ := x_ifn h
      refine z_sald Z dL_law_556 hz 557 rfl ?_
      refine x_aload_n 558 rfl 3 dL_law_557 rfl rfl ?_
      obtain ⟨⟨q35r, q35s⟩, q35h, h⟩ := x_bind h
      try dsimp only at h
      refine z_callHd (bc := bc) (bs := bs) E [.ref 0, .int _, .ref 96] [] dL_law_558 KC_RL_127 ⟨(Nat.le_of_ble_eq_true rfl), (Nat.le_of_ble_eq_true rfl)⟩ rfl rfl (Nat.le_of_ble_eq_true rfl) rfl rfl (cw_turn E _ q35h) 561 rfl [.int _] rfl ?_
      refine x_istore 563 rfl dL_law_561 (by decide) [some (.ref 1500), some (.ref 0), some (.ref 60), some (.ref 96), some (.int _), some (.int _), none] rfl ?_
      refine x_aload_n 564 rfl 2 dL_law_563 rfl rfl ?_
      refine x_aload_n 565 rfl 0 dL_law_564 rfl rfl ?_
      refine x_iload 567 rfl dL_law_565 rfl ?_
      refine x_iconst 568 rfl (v := 1) dL_law_567 (by decide) ?_
      refine x_iadd 569 rfl dL_law_568 ?_
      obtain ⟨hz, h⟩ := x_ifn h
      refine z_sald Z dL_law_569 hz 570 rfl ?_
      obtain ⟨⟨q37r, q37s⟩, q37h, h⟩ := x_bind h
      try dsimp only at h
      refine z_callV E [.int _] [] dL_law_570 K_RL_129 ⟨Nat.le_of_ble_eq_true rfl, Nat.le_of_ble_eq_true rfl⟩ sh_60 (by decide) rfl (c_Mo_turn_60 E _ q37h) rfl rfl (Nat.le_of_ble_eq_true rfl) 573 rfl [.int _] rfl ?_
      refine x_istore 575 rfl dL_law_573 (by decide) [some (.ref 1500), some (.ref 0), some (.ref 60), some (.ref 96), some (.int _), some (.int _), some (.int _)] rfl ?_
      refine x_aload_n 576 rfl 2 dL_law_575 rfl rfl ?_
      obtain ⟨⟨q39r, q39s⟩, q39h, h⟩ := x_bind h
      try dsimp only at h
      refine z_callV E [] [] dL_law_576 K_RL_109 ⟨Nat.le_of_ble_eq_true rfl, Nat.le_of_ble_eq_true rfl⟩ sh_60 (by decide) rfl (c_Mo_thrown_60 E  q39h) rfl rfl (Nat.le_of_ble_eq_true rfl) 579 rfl [.int _] rfl ?_
      refine x_iload 581 rfl dL_law_579 rfl ?_
      refine x_icmp_eq 584 rfl 586 dL_law_581 (by decide) (fun hc => ?_) (fun hc => ?_)
      · replace h := x_ifT hc h
        refine x_iload 588 rfl dL_law_586 rfl ?_
        refine x_if_ne 591 rfl 603 dL_law_588 (by decide) (fun hc => ?_) (fun hc => ?_)
        · replace h := x_ifF hc h
          refine x_goto 2205 dL_law_603 (by decide) ?_
          refine x_iinc 2208 rfl (6) dL_law_2205 rfl (by decide) (by decide) [some (.ref 1500), some (.ref 0), some (.ref 60), some (.ref 96), some (.int _), some (.int _), some (.int _)] rfl ?_
          refine x_goto 23 dL_law_2208 (by decide) ?_
          cases h
          exact x_wk (x_le_s (x_le_s (x_le_s (x_le_s (x_le_s (x_le_n (x_le_n x_le_0))))))) (hG (_, _) rfl)
        · replace h := x_ifT hc h
          refine x_aload_n 592 rfl 3 dL_law_591 rfl rfl ?_
          refine x_iconst 593 rfl (v := 0) dL_law_592 (by decide) ?_
          refine x_lald E dL_law_593 sh_96 0 (by decide) (by decide) 594 rfl ?_
          refine x_iload 596 rfl dL_law_594 rfl ?_
          refine x_i2l 597 rfl dL_law_596 ?_
          refine x_lcmp 598 rfl dL_law_597 ?_
          refine x_if_eq 601 rfl 603 dL_law_598 (by decide) (fun hc => ?_) (fun hc => ?_)
          · replace h := x_ifT hc h
            refine x_goto 2205 dL_law_603 (by decide) ?_
            refine x_iinc 2208 rfl (6) dL_law_2205 rfl (by decide) (by decide) [some (.ref 1500), some (.ref 0), some (.ref 60), some (.ref 96), some (.int _), some (.int _), some (.int _)] rfl ?_
            refine x_goto 23 dL_law_2208 (by decide) ?_
            cases h
            exact x_wk (x_le_s (x_le_s (x_le_s (x_le_s (x_le_s (x_le_n (x_le_n x_le_0))))))) (hG (_, _) rfl)
          · replace h := x_ifF hc h
            refine x_iconst 602 rfl (v := 0) dL_law_601 (by decide) ?_
            cases h
      · replace h := x_ifF hc h
        refine x_iconst 585 rfl (v := 0) dL_law_584 (by decide) ?_
        cases h
    replace h := x_ifF hc6 h
    refine x_case (7) (fun hc7 => ?_) (fun hc7 => ?_)
    · replace h := x_ifT hc7 h
      refine x_tabIn (off := 566) 606 dL_law_40 (by rw [hc7]; decide) (by rw [hc7]; decide) (by rw [hc7]; rfl) (by decide) ?_
      refine x_aload_n 607 rfl 1 dL_law_606 rfl rfl ?_
      refine x_aload_n 608 rfl 0 dL_law_607 rfl rfl ?_
      refine x_iload 610 rfl dL_law_608 rfl ?_
      refine x_iconst 611 rfl (v := 1) dL_law_610 (by decide) ?_
      refine x_iadd 612 rfl dL_law_611 ?_
      obtain ⟨hz, h⟩ := x_ifn h
      refine z_sald Z dL_law_612 hz 613 rfl ?_
      refine x_aload_n 614 rfl 0 dL_law_613 rfl rfl ?_
      refine x_iload 616 rfl dL_law_614 rfl ?_
      refine x_iconst 617 rfl (v := 2) dL_law_616 (by decide) ?_
      refine x_iadd 618 rfl dL_law_617 ?_
      obtain ⟨hz, h⟩ := x_ifn h
      refine z_sald Z dL_law_618 hz 619 rfl ?_
      refine x_aload_n 620 rfl 3 dL_law_619 rfl rfl ?_
      obtain ⟨⟨q42r, q42s⟩, q42h, h⟩ := x_bind h
      try dsimp only at h
      refine z_callHd (bc := bc) (bs := bs) E [.ref 0, .int _, .int _, .ref 96] [] dL_law_620 KC_RL_130 ⟨(Nat.le_of_ble_eq_true rfl), (Nat.le_of_ble_eq_true rfl)⟩ rfl rfl (Nat.le_of_ble_eq_true rfl) rfl rfl (cw_tenth E _ _ q42h) 623 rfl [.int _] rfl ?_
      refine x_istore 625 rfl dL_law_623 (by decide) [some (.ref 1500), some (.ref 0), some (.ref 60), some (.ref 96), some (.int _), some (.int _), none] rfl ?_
      refine x_aload_n 626 rfl 2 dL_law_625 rfl rfl ?_
      refine x_aload_n 627 rfl 0 dL_law_626 rfl rfl ?_
      refine x_iload 629 rfl dL_law_627 rfl ?_
      refine x_iconst 630 rfl (v := 1) dL_law_629 (by decide) ?_
      refine x_iadd 631 rfl dL_law_630 ?_
      obtain ⟨hz, h⟩ := x_ifn h
      refine z_sald Z dL_law_631 hz 632 rfl ?_
      refine x_aload_n 633 rfl 0 dL_law_632 rfl rfl ?_
      refine x_iload 635 rfl dL_law_633 rfl ?_
      refine x_iconst 636 rfl (v := 2) dL_law_635 (by decide) ?_
      refine x_iadd 637 rfl dL_law_636 ?_
      obtain ⟨hz, h⟩ := x_ifn h
      refine z_sald Z dL_law_637 hz 638 rfl ?_
      obtain ⟨⟨q44r, q44s⟩, q44h, h⟩ := x_bind h
      try dsimp only at h
      refine z_callV E [.int _, .int _] [] dL_law_638 K_RL_132 ⟨Nat.le_of_ble_eq_true rfl, Nat.le_of_ble_eq_true rfl⟩ sh_60 (by decide) rfl (c_Mo_tenth_60 E _ _ q44h) rfl rfl (Nat.le_of_ble_eq_true rfl) 641 rfl [.int _] rfl ?_
      refine x_istore 643 rfl dL_law_641 (by decide) [some (.ref 1500), some (.ref 0), some (.ref 60), some (.ref 96), some (.int _), some (.int _), some (.int _)] rfl ?_
      refine x_aload_n 644 rfl 2 dL_law_643 rfl rfl ?_
      obtain ⟨⟨q46r, q46s⟩, q46h, h⟩ := x_bind h
      try dsimp only at h
      refine z_callV E [] [] dL_law_644 K_RL_109 ⟨Nat.le_of_ble_eq_true rfl, Nat.le_of_ble_eq_true rfl⟩ sh_60 (by decide) rfl (c_Mo_thrown_60 E  q46h) rfl rfl (Nat.le_of_ble_eq_true rfl) 647 rfl [.int _] rfl ?_
      refine x_iload 649 rfl dL_law_647 rfl ?_
      refine x_icmp_eq 652 rfl 654 dL_law_649 (by decide) (fun hc => ?_) (fun hc => ?_)
      · replace h := x_ifT hc h
        refine x_iload 656 rfl dL_law_654 rfl ?_
        refine x_if_ne 659 rfl 671 dL_law_656 (by decide) (fun hc => ?_) (fun hc => ?_)
        · replace h := x_ifF hc h
          refine x_goto 2205 dL_law_671 (by decide) ?_
          refine x_iinc 2208 rfl (6) dL_law_2205 rfl (by decide) (by decide) [some (.ref 1500), some (.ref 0), some (.ref 60), some (.ref 96), some (.int _), some (.int _), some (.int _)] rfl ?_
          refine x_goto 23 dL_law_2208 (by decide) ?_
          cases h
          exact x_wk (x_le_s (x_le_s (x_le_s (x_le_s (x_le_s (x_le_n (x_le_n x_le_0))))))) (hG (_, _) rfl)
        · replace h := x_ifT hc h
          refine x_aload_n 660 rfl 3 dL_law_659 rfl rfl ?_
          refine x_iconst 661 rfl (v := 0) dL_law_660 (by decide) ?_
          refine x_lald E dL_law_661 sh_96 0 (by decide) (by decide) 662 rfl ?_
          refine x_iload 664 rfl dL_law_662 rfl ?_
          refine x_i2l 665 rfl dL_law_664 ?_
          refine x_lcmp 666 rfl dL_law_665 ?_
          refine x_if_eq 669 rfl 671 dL_law_666 (by decide) (fun hc => ?_) (fun hc => ?_)
          · replace h := x_ifT hc h
            refine x_goto 2205 dL_law_671 (by decide) ?_
            refine x_iinc 2208 rfl (6) dL_law_2205 rfl (by decide) (by decide) [some (.ref 1500), some (.ref 0), some (.ref 60), some (.ref 96), some (.int _), some (.int _), some (.int _)] rfl ?_
            refine x_goto 23 dL_law_2208 (by decide) ?_
            cases h
            exact x_wk (x_le_s (x_le_s (x_le_s (x_le_s (x_le_s (x_le_n (x_le_n x_le_0))))))) (hG (_, _) rfl)
          · replace h := x_ifF hc h
            refine x_iconst 670 rfl (v := 0) dL_law_669 (by decide) ?_
            cases h
      · replace h := x_ifF hc h
        refine x_iconst 653 rfl (v := 0) dL_law_652 (by decide) ?_
        cases h
    replace h := x_ifF hc7 h
    refine x_case (8) (fun hc8 => ?_) (fun hc8 => ?_)
    · replace h := x_ifT hc8 h
      refine x_tabIn (off := 634) 674 dL_law_40 (by rw [hc8]; decide) (by rw [hc8]; decide) (by rw [hc8]; rfl) (by decide) ?_
      refine x_aload_n 675 rfl 1 dL_law_674 rfl rfl ?_
      refine x_aload_n 676 rfl 0 dL_law_675 rfl rfl ?_
      refine x_iload 678 rfl dL_law_676 rfl ?_
      refine x_iconst 679 rfl (v := 1) dL_law_678 (by decide) ?_
      refine x_iadd 680 rfl dL_law_679 ?_
      obtain ⟨hz, h⟩ := x_ifn h
      refine z_sald Z dL_law_680 hz 681 rfl ?_
      refine x_aload_n 682 rfl 3 dL_law_681 rfl rfl ?_
      obtain ⟨⟨q49r, q49s⟩, q49h, h⟩ := x_bind h
      try dsimp only at h
      refine z_callHd (bc := bc) (bs := bs) E [.ref 0, .int _, .ref 96] [] dL_law_682 KC_RL_133 ⟨(Nat.le_of_ble_eq_true rfl), (Nat.le_of_ble_eq_true rfl)⟩ rfl rfl (Nat.le_of_ble_eq_true rfl) rfl rfl (cw_all E _ q49h) 685 rfl [.int _] rfl ?_
      refine x_istore 687 rfl dL_law_685 (by decide) [some (.ref 1500), some (.ref 0), some (.ref 60), some (.ref 96), some (.int _), some (.int _), none] rfl ?_
      refine x_aload_n 688 rfl 2 dL_law_687 rfl rfl ?_
      refine x_aload_n 689 rfl 0 dL_law_688 rfl rfl ?_
      refine x_iload 691 rfl dL_law_689 rfl ?_
      refine x_iconst 692 rfl (v := 1) dL_law_691 (by decide) ?_
      refine x_iadd 693 rfl dL_law_692 ?_
      obtain ⟨hz, h⟩ := x_ifn h
      refine z_sald Z dL_law_693 hz 694 rfl ?_
      obtain ⟨⟨q51r, q51s⟩, q51h, h⟩ := x_bind h
      try dsimp only at h
      refine z_callV E [.int _] [] dL_law_694 K_RL_135 ⟨Nat.le_of_ble_eq_true rfl, Nat.le_of_ble_eq_true rfl⟩ sh_60 (by decide) rfl (c_Mo_all_60 E _ q51h) rfl rfl (Nat.le_of_ble_eq_true rfl) 697 rfl [.int _] rfl ?_
      refine x_istore 699 rfl dL_law_697 (by decide) [some (.ref 1500), some (.ref 0), some (.ref 60), some (.ref 96), some (.int _), some (.int _), some (.int _)] rfl ?_
      refine x_aload_n 700 rfl 2 dL_law_699 rfl rfl ?_
      obtain ⟨⟨q53r, q53s⟩, q53h, h⟩ := x_bind h
      try dsimp only at h
      refine z_callV E [] [] dL_law_700 K_RL_109 ⟨Nat.le_of_ble_eq_true rfl, Nat.le_of_ble_eq_true rfl⟩ sh_60 (by decide) rfl (c_Mo_thrown_60 E  q53h) rfl rfl (Nat.le_of_ble_eq_true rfl) 703 rfl [.int _] rfl ?_
      refine x_iload 705 rfl dL_law_703 rfl ?_
      refine x_icmp_eq 708 rfl 710 dL_law_705 (by decide) (fun hc => ?_) (fun hc => ?_)
      · replace h := x_ifT hc h
        refine x_iload 712 rfl dL_law_710 rfl ?_
        refine x_if_ne 715 rfl 727 dL_law_712 (by decide) (fun hc => ?_) (fun hc => ?_)
        · replace h := x_ifF hc h
          refine x_goto 2205 dL_law_727 (by decide) ?_
          refine x_iinc 2208 rfl (6) dL_law_2205 rfl (by decide) (by decide) [some (.ref 1500), some (.ref 0), some (.ref 60), some (.ref 96), some (.int _), some (.int _), some (.int _)] rfl ?_
          refine x_goto 23 dL_law_2208 (by decide) ?_
          cases h
          exact x_wk (x_le_s (x_le_s (x_le_s (x_le_s (x_le_s (x_le_n (x_le_n x_le_0))))))) (hG (_, _) rfl)
        · replace h := x_ifT hc h
          refine x_aload_n 716 rfl 3 dL_law_715 rfl rfl ?_
          refine x_iconst 717 rfl (v := 0) dL_law_716 (by decide) ?_
          refine x_lald E dL_law_717 sh_96 0 (by decide) (by decide) 718 rfl ?_
          refine x_iload 720 rfl dL_law_718 rfl ?_
          refine x_i2l 721 rfl dL_law_720 ?_
          refine x_lcmp 722 rfl dL_law_721 ?_
          refine x_if_eq 725 rfl 727 dL_law_722 (by decide) (fun hc => ?_) (fun hc => ?_)
          · replace h := x_ifT hc h
            refine x_goto 2205 dL_law_727 (by decide) ?_
            refine x_iinc 2208 rfl (6) dL_law_2205 rfl (by decide) (by decide) [some (.ref 1500), some (.ref 0), some (.ref 60), some (.ref 96), some (.int _), some (.int _), some (.int _)] rfl ?_
            refine x_goto 23 dL_law_2208 (by decide) ?_
            cases h
            exact x_wk (x_le_s (x_le_s (x_le_s (x_le_s (x_le_s (x_le_n (x_le_n x_le_0))))))) (hG (_, _) rfl)
          · replace h := x_ifF hc h
            refine x_iconst 726 rfl (v := 0) dL_law_725 (by decide) ?_
            cases h
      · replace h := x_ifF hc h
        refine x_iconst 709 rfl (v := 0) dL_law_708 (by decide) ?_
        cases h
    replace h := x_ifF hc8 h
    refine x_case (9) (fun hc9 => ?_) (fun hc9 => ?_)
    · replace h := x_ifT hc9 h
      refine x_tabIn (off := 690) 730 dL_law_40 (by rw [hc9]; decide) (by rw [hc9]; decide) (by rw [hc9]; rfl) (by decide) ?_
      refine x_aload_n 731 rfl 1 dL_law_730 rfl rfl ?_
      refine x_aload_n 732 rfl 0 dL_law_731 rfl rfl ?_
      refine x_iload 734 rfl dL_law_732 rfl ?_
      refine x_iconst 735 rfl (v := 1) dL_law_734 (by decide) ?_
      refine x_iadd 736 rfl dL_law_735 ?_
      obtain ⟨hz, h⟩ := x_ifn h
      refine z_sald Z dL_law_736 hz 737 rfl ?_
      obtain ⟨⟨q56r, q56s⟩, q56h, h⟩ := x_bind h
      try dsimp only at h
      refine z_callV E [.int _] [] dL_law_737 K_RL_136 ⟨Nat.le_of_ble_eq_true rfl, Nat.le_of_ble_eq_true rfl⟩ sh_0 (by decide) rfl (c_RH_hole_0 E _ q56h) rfl rfl (Nat.le_of_ble_eq_true rfl) 740 rfl [.int _] rfl ?_
      refine x_aload_n 741 rfl 2 dL_law_740 rfl rfl ?_
      refine x_aload_n 742 rfl 0 dL_law_741 rfl rfl ?_
      refine x_iload 744 rfl dL_law_742 rfl ?_
      refine x_iconst 745 rfl (v := 1) dL_law_744 (by decide) ?_
      refine x_iadd 746 rfl dL_law_745 ?_
      obtain ⟨hz, h⟩ := x_ifn h
      refine z_sald Z dL_law_746 hz 747 rfl ?_
      obtain ⟨⟨q57r, q57s⟩, q57h, h⟩ := x_bind h
      try dsimp only at h
      refine z_callV E [.int _] [.int _] dL_law_747 K_RL_139 ⟨Nat.le_of_ble_eq_true rfl, Nat.le_of_ble_eq_true rfl⟩ sh_60 (by decide) rfl (c_Mo_hole_60 E _ q57h) rfl rfl (Nat.le_of_ble_eq_true rfl) 750 rfl [.int _, .int _] rfl ?_
      refine x_icmp_eq 753 rfl 2205 dL_law_750 (by decide) (fun hc => ?_) (fun hc => ?_)
      · replace h := x_ifT hc h
        refine x_iinc 2208 rfl (6) dL_law_2205 rfl (by decide) (by decide) [some (.ref 1500), some (.ref 0), some (.ref 60), some (.ref 96), some (.int _), none, none] rfl ?_
        refine x_goto 23 dL_law_2208 (by decide) ?_
        cases h
        exact x_wk (x_le_s (x_le_s (x_le_s (x_le_s (x_le_s (x_le_n (x_le_n x_le_0))))))) (x_less (Nat.le_succ _) (Nat.le_add_right _ _) (hG (_, _) rfl))
      · replace h := x_ifF hc h
        refine x_iconst 754 rfl (v := 0) dL_law_753 (by decide) ?_
        cases h
    replace h := x_ifF hc9 h
    refine x_case (10) (fun hc10 => ?_) (fun hc10 => ?_)
    · replace h := x_ifT hc10 h
      refine x_tabIn (off := 715) 755 dL_law_40 (by rw [hc10]; decide) (by rw [hc10]; decide) (by rw [hc10]; rfl) (by decide) ?_
      refine x_aload_n 756 rfl 1 dL_law_755 rfl rfl ?_
      refine x_aload_n 757 rfl 0 dL_law_756 rfl rfl ?_
      refine x_iload 759 rfl dL_law_757 rfl ?_
      refine x_iconst 760 rfl (v := 1) dL_law_759 (by decide) ?_
      refine x_iadd 761 rfl dL_law_760 ?_
      obtain ⟨hz, h⟩ := x_ifn h
      refine z_sald Z dL_law_761 hz 762 rfl ?_
      obtain ⟨⟨q59r, q59s⟩, q59h, h⟩ := x_bind h
      try dsimp only at h
      refine z_callV E [.int _] [] dL_law_762 K_RL_140 ⟨Nat.le_of_ble_eq_true rfl, Nat.le_of_ble_eq_true rfl⟩ sh_0 (by decide) rfl (c_RH_lag_0 E _ q59h) rfl rfl (Nat.le_of_ble_eq_true rfl) 765 rfl [.int _] rfl ?_
      refine x_aload_n 766 rfl 2 dL_law_765 rfl rfl ?_
      refine x_aload_n 767 rfl 0 dL_law_766 rfl rfl ?_
      refine x_iload 769 rfl dL_law_767 rfl ?_
      refine x_iconst 770 rfl (v := 1) dL_law_769 (by decide) ?_
      refine x_iadd 771 rfl dL_law_770 ?_
      obtain ⟨hz, h⟩ := x_ifn h
      refine z_sald Z dL_law_771 hz 772 rfl ?_
      obtain ⟨⟨q60r, q60s⟩, q60h, h⟩ := x_bind h
      try dsimp only at h
      refine z_callV E [.int _] [.int _] dL_law_772 K_RL_143 ⟨Nat.le_of_ble_eq_true rfl, Nat.le_of_ble_eq_true rfl⟩ sh_60 (by decide) rfl (c_Mo_lag_60 E _ q60h) rfl rfl (Nat.le_of_ble_eq_true rfl) 775 rfl [.int _, .int _] rfl ?_
      refine x_icmp_eq 778 rfl 2205 dL_law_775 (by decide) (fun hc => ?_) (fun hc => ?_)
      · replace h := x_ifT hc h
        refine x_iinc 2208 rfl (6) dL_law_2205 rfl (by decide) (by decide) [some (.ref 1500), some (.ref 0), some (.ref 60), some (.ref 96), some (.int _), none, none] rfl ?_
        refine x_goto 23 dL_law_2208 (by decide) ?_
        cases h
        exact x_wk (x_le_s (x_le_s (x_le_s (x_le_s (x_le_s (x_le_n (x_le_n x_le_0))))))) (x_less (Nat.le_succ _) (Nat.le_add_right _ _) (hG (_, _) rfl))
      · replace h := x_ifF hc h
        refine x_iconst 779 rfl (v := 0) dL_law_778 (by decide) ?_
        cases h
    replace h := x_ifF hc10 h
    refine x_case (11) (fun hc11 => ?_) (fun hc11 => ?_)
    · replace h := x_ifT hc11 h
      refine x_tabIn (off := 740) 780 dL_law_40 (by rw [hc11]; decide) (by rw [hc11]; decide) (by rw [hc11]; rfl) (by decide) ?_
      refine x_aload_n 781 rfl 1 dL_law_780 rfl rfl ?_
      refine x_aload_n 782 rfl 0 dL_law_781 rfl rfl ?_
      refine x_iload 784 rfl dL_law_782 rfl ?_
      refine x_iconst 785 rfl (v := 1) dL_law_784 (by decide) ?_
      refine x_iadd 786 rfl dL_law_785 ?_
      obtain ⟨hz, h⟩ := x_ifn h
      refine z_sald Z dL_law_786 hz 787 rfl ?_
      obtain ⟨⟨q62r, q62s⟩, q62h, h⟩ := x_bind h
      try dsimp only at h
      refine z_callV E [.int _] [] dL_law_787 K_RL_144 ⟨Nat.le_of_ble_eq_true rfl, Nat.le_of_ble_eq_true rfl⟩ sh_0 (by decide) rfl (c_RH_wrist_0 E _ q62h) rfl rfl (Nat.le_of_ble_eq_true rfl) 790 rfl [.int _] rfl ?_
      refine x_aload_n 791 rfl 2 dL_law_790 rfl rfl ?_
      refine x_aload_n 792 rfl 0 dL_law_791 rfl rfl ?_
      refine x_iload 794 rfl dL_law_792 rfl ?_
      refine x_iconst 795 rfl (v := 1) dL_law_794 (by decide) ?_
      refine x_iadd 796 rfl dL_law_795 ?_
      obtain ⟨hz, h⟩ := x_ifn h
      refine z_sald Z dL_law_796 hz 797 rfl ?_
      obtain ⟨⟨q63r, q63s⟩, q63h, h⟩ := x_bind h
      try dsimp only at h
      refine z_callV E [.int _] [.int _] dL_law_797 K_RL_147 ⟨Nat.le_of_ble_eq_true rfl, Nat.le_of_ble_eq_true rfl⟩ sh_60 (by decide) rfl (c_Mo_wrist_60 E _ q63h) rfl rfl (Nat.le_of_ble_eq_true rfl) 800 rfl [.int _, .int _] rfl ?_
      refine x_icmp_eq 803 rfl 2205 dL_law_800 (by decide) (fun hc => ?_) (fun hc => ?_)
      · replace h := x_ifT hc h
        refine x_iinc 2208 rfl (6) dL_law_2205 rfl (by decide) (by decide) [some (.ref 1500), some (.ref 0), some (.ref 60), some (.ref 96), some (.int _), none, none] rfl ?_
        refine x_goto 23 dL_law_2208 (by decide) ?_
        cases h
        exact x_wk (x_le_s (x_le_s (x_le_s (x_le_s (x_le_s (x_le_n (x_le_n x_le_0))))))) (x_less (Nat.le_succ _) (Nat.le_add_right _ _) (hG (_, _) rfl))
      · replace h := x_ifF hc h
        refine x_iconst 804 rfl (v := 0) dL_law_803 (by decide) ?_
        cases h
    replace h := x_ifF hc11 h
    refine x_case (12) (fun hc12 => ?_) (fun hc12 => ?_)
    · replace h := x_ifT hc12 h
      refine x_tabIn (off := 765) 805 dL_law_40 (by rw [hc12]; decide) (by rw [hc12]; decide) (by rw [hc12]; rfl) (by decide) ?_
      refine x_aload_n 806 rfl 1 dL_law_805 rfl rfl ?_
      refine x_aload_n 807 rfl 0 dL_law_806 rfl rfl ?_
      refine x_iload 809 rfl dL_law_807 rfl ?_
      refine x_iconst 810 rfl (v := 1) dL_law_809 (by decide) ?_
      refine x_iadd 811 rfl dL_law_810 ?_
      obtain ⟨hz, h⟩ := x_ifn h
      refine z_sald Z dL_law_811 hz 812 rfl ?_
      obtain ⟨⟨q65r, q65s⟩, q65h, h⟩ := x_bind h
      try dsimp only at h
      refine z_callV E [.int _] [] dL_law_812 K_RL_148 ⟨Nat.le_of_ble_eq_true rfl, Nat.le_of_ble_eq_true rfl⟩ sh_0 (by decide) rfl (c_RH_eye_0 E _ q65h) rfl rfl (Nat.le_of_ble_eq_true rfl) 815 rfl [.int _] rfl ?_
      refine x_aload_n 816 rfl 2 dL_law_815 rfl rfl ?_
      refine x_aload_n 817 rfl 0 dL_law_816 rfl rfl ?_
      refine x_iload 819 rfl dL_law_817 rfl ?_
      refine x_iconst 820 rfl (v := 1) dL_law_819 (by decide) ?_
      refine x_iadd 821 rfl dL_law_820 ?_
      obtain ⟨hz, h⟩ := x_ifn h
      refine z_sald Z dL_law_821 hz 822 rfl ?_
      obtain ⟨⟨q66r, q66s⟩, q66h, h⟩ := x_bind h
      try dsimp only at h
      refine z_callV E [.int _] [.int _] dL_law_822 K_RL_151 ⟨Nat.le_of_ble_eq_true rfl, Nat.le_of_ble_eq_true rfl⟩ sh_60 (by decide) rfl (c_Mo_eye_60 E _ q66h) rfl rfl (Nat.le_of_ble_eq_true rfl) 825 rfl [.int _, .int _] rfl ?_
      refine x_icmp_eq 828 rfl 2205 dL_law_825 (by decide) (fun hc => ?_) (fun hc => ?_)
      · replace h := x_ifT hc h
        refine x_iinc 2208 rfl (6) dL_law_2205 rfl (by decide) (by decide) [some (.ref 1500), some (.ref 0), some (.ref 60), some (.ref 96), some (.int _), none, none] rfl ?_
        refine x_goto 23 dL_law_2208 (by decide) ?_
        cases h
        exact x_wk (x_le_s (x_le_s (x_le_s (x_le_s (x_le_s (x_le_n (x_le_n x_le_0))))))) (x_less (Nat.le_succ _) (Nat.le_add_right _ _) (hG (_, _) rfl))
      · replace h := x_ifF hc h
        refine x_iconst 829 rfl (v := 0) dL_law_828 (by decide) ?_
        cases h
    replace h := x_ifF hc12 h
    refine x_case (13) (fun hc13 => ?_) (fun hc13 => ?_)
    · replace h := x_ifT hc13 h
      refine x_tabIn (off := 790) 830 dL_law_40 (by rw [hc13]; decide) (by rw [hc13]; decide) (by rw [hc13]; rfl) (by decide) ?_
      refine x_aload_n 831 rfl 1 dL_law_830 rfl rfl ?_
      refine x_aload_n 832 rfl 0 dL_law_831 rfl rfl ?_
      refine x_iload 834 rfl dL_law_832 rfl ?_
      refine x_iconst 835 rfl (v := 1) dL_law_834 (by decide) ?_
      refine x_iadd 836 rfl dL_law_835 ?_
      obtain ⟨hz, h⟩ := x_ifn h
      refine z_sald Z dL_law_836 hz 837 rfl ?_
      obtain ⟨⟨q68r, q68s⟩, q68h, h⟩ := x_bind h
      try dsimp only at h
      refine z_callV E [.int _] [] dL_law_837 K_RL_152 ⟨Nat.le_of_ble_eq_true rfl, Nat.le_of_ble_eq_true rfl⟩ sh_0 (by decide) rfl (c_RH_hand_0 E _ q68h) rfl rfl (Nat.le_of_ble_eq_true rfl) 840 rfl [.int _] rfl ?_
      refine x_aload_n 841 rfl 2 dL_law_840 rfl rfl ?_
      refine x_aload_n 842 rfl 0 dL_law_841 rfl rfl ?_
      refine x_iload 844 rfl dL_law_842 rfl ?_
      refine x_iconst 845 rfl (v := 1) dL_law_844 (by decide) ?_
      refine x_iadd 846 rfl dL_law_845 ?_
      obtain ⟨hz, h⟩ := x_ifn h
      refine z_sald Z dL_law_846 hz 847 rfl ?_
      obtain ⟨⟨q69r, q69s⟩, q69h, h⟩ := x_bind h
      try dsimp only at h
      refine z_callV E [.int _] [.int _] dL_law_847 K_RL_156 ⟨Nat.le_of_ble_eq_true rfl, Nat.le_of_ble_eq_true rfl⟩ sh_60 (by decide) rfl (c_Mo_hand_60 E _ q69h) rfl rfl (Nat.le_of_ble_eq_true rfl) 850 rfl [.int _, .int _] rfl ?_
      refine x_icmp_eq 853 rfl 2205 dL_law_850 (by decide) (fun hc => ?_) (fun hc => ?_)
      · replace h := x_ifT hc h
        refine x_iinc 2208 rfl (6) dL_law_2205 rfl (by decide) (by decide) [some (.ref 1500), some (.ref 0), some (.ref 60), some (.ref 96), some (.int _), none, none] rfl ?_
        refine x_goto 23 dL_law_2208 (by decide) ?_
        cases h
        exact x_wk (x_le_s (x_le_s (x_le_s (x_le_s (x_le_s (x_le_n (x_le_n x_le_0))))))) (x_less (Nat.le_succ _) (Nat.le_add_right _ _) (hG (_, _) rfl))
      · replace h := x_ifF hc h
        refine x_iconst 854 rfl (v := 0) dL_law_853 (by decide) ?_
        cases h
    replace h := x_ifF hc13 h
    refine x_case (14) (fun hc14 => ?_) (fun hc14 => ?_)
    · replace h := x_ifT hc14 h
      refine x_tabIn (off := 815) 855 dL_law_40 (by rw [hc14]; decide) (by rw [hc14]; decide) (by rw [hc14]; rfl) (by decide) ?_
      refine x_aload_n 856 rfl 1 dL_law_855 rfl rfl ?_
      refine x_aload_n 857 rfl 0 dL_law_856 rfl rfl ?_
      refine x_iload 859 rfl dL_law_857 rfl ?_
      refine x_iconst 860 rfl (v := 1) dL_law_859 (by decide) ?_
      refine x_iadd 861 rfl dL_law_860 ?_
      obtain ⟨hz, h⟩ := x_ifn h
      refine z_sald Z dL_law_861 hz 862 rfl ?_
      obtain ⟨⟨q71r, q71s⟩, q71h, h⟩ := x_bind h
      try dsimp only at h
      refine z_callV E [.int _] [] dL_law_862 K_RL_157 ⟨Nat.le_of_ble_eq_true rfl, Nat.le_of_ble_eq_true rfl⟩ sh_0 (by decide) rfl (c_RH_behind_0 E _ q71h) rfl rfl (Nat.le_of_ble_eq_true rfl) 865 rfl [.int _] rfl ?_
      refine x_aload_n 866 rfl 2 dL_law_865 rfl rfl ?_
      refine x_aload_n 867 rfl 0 dL_law_866 rfl rfl ?_
      refine x_iload 869 rfl dL_law_867 rfl ?_
      refine x_iconst 870 rfl (v := 1) dL_law_869 (by decide) ?_
      refine x_iadd 871 rfl dL_law_870 ?_
      obtain ⟨hz, h⟩ := x_ifn h
      refine z_sald Z dL_law_871 hz 872 rfl ?_
      obtain ⟨⟨q72r, q72s⟩, q72h, h⟩ := x_bind h
      try dsimp only at h
      refine z_callV E [.int _] [.int _] dL_law_872 K_RL_160 ⟨Nat.le_of_ble_eq_true rfl, Nat.le_of_ble_eq_true rfl⟩ sh_60 (by decide) rfl (c_Mo_behind_60 E _ q72h) rfl rfl (Nat.le_of_ble_eq_true rfl) 875 rfl [.int _, .int _] rfl ?_
      refine x_icmp_eq 878 rfl 2205 dL_law_875 (by decide) (fun hc => ?_) (fun hc => ?_)
      · replace h := x_ifT hc h
        refine x_iinc 2208 rfl (6) dL_law_2205 rfl (by decide) (by decide) [some (.ref 1500), some (.ref 0), some (.ref 60), some (.ref 96), some (.int _), none, none] rfl ?_
        refine x_goto 23 dL_law_2208 (by decide) ?_
        cases h
        exact x_wk (x_le_s (x_le_s (x_le_s (x_le_s (x_le_s (x_le_n (x_le_n x_le_0))))))) (x_less (Nat.le_succ _) (Nat.le_add_right _ _) (hG (_, _) rfl))
      · replace h := x_ifF hc h
        refine x_iconst 879 rfl (v := 0) dL_law_878 (by decide) ?_
        cases h
    replace h := x_ifF hc14 h
    refine x_case (15) (fun hc15 => ?_) (fun hc15 => ?_)
    · replace h := x_ifT hc15 h
      refine x_tabIn (off := 840) 880 dL_law_40 (by rw [hc15]; decide) (by rw [hc15]; decide) (by rw [hc15]; rfl) (by decide) ?_
      refine x_aload_n 881 rfl 1 dL_law_880 rfl rfl ?_
      refine x_aload_n 882 rfl 0 dL_law_881 rfl rfl ?_
      refine x_iload 884 rfl dL_law_882 rfl ?_
      refine x_iconst 885 rfl (v := 1) dL_law_884 (by decide) ?_
      refine x_iadd 886 rfl dL_law_885 ?_
      obtain ⟨hz, h⟩ := x_ifn h
      refine z_sald Z dL_law_886 hz 887 rfl ?_
      refine x_aload_n 888 rfl 0 dL_law_887 rfl rfl ?_
      refine x_iload 890 rfl dL_law_888 rfl ?_
      refine x_iconst 891 rfl (v := 2) dL_law_890 (by decide) ?_
      refine x_iadd 892 rfl dL_law_891 ?_
      obtain ⟨hz, h⟩ := x_ifn h
      refine z_sald Z dL_law_892 hz 893 rfl ?_
      refine x_aload_n 894 rfl 3 dL_law_893 rfl rfl ?_
      obtain ⟨⟨q74r, q74s⟩, q74h, h⟩ := x_bind h
      try dsimp only at h
      refine z_callHd (bc := bc) (bs := bs) E [.ref 0, .int _, .int _, .ref 96] [] dL_law_894 KC_RL_161 ⟨(Nat.le_of_ble_eq_true rfl), (Nat.le_of_ble_eq_true rfl)⟩ rfl rfl (Nat.le_of_ble_eq_true rfl) rfl rfl (cw_chalk E _ _ q74h) 897 rfl [.int _] rfl ?_
      refine x_istore 899 rfl dL_law_897 (by decide) [some (.ref 1500), some (.ref 0), some (.ref 60), some (.ref 96), some (.int _), some (.int _), none] rfl ?_
      refine x_aload_n 900 rfl 2 dL_law_899 rfl rfl ?_
      refine x_aload_n 901 rfl 0 dL_law_900 rfl rfl ?_
      refine x_iload 903 rfl dL_law_901 rfl ?_
      refine x_iconst 904 rfl (v := 1) dL_law_903 (by decide) ?_
      refine x_iadd 905 rfl dL_law_904 ?_
      obtain ⟨hz, h⟩ := x_ifn h
      refine z_sald Z dL_law_905 hz 906 rfl ?_
      refine x_aload_n 907 rfl 0 dL_law_906 rfl rfl ?_
      refine x_iload 909 rfl dL_law_907 rfl ?_
      refine x_iconst 910 rfl (v := 2) dL_law_909 (by decide) ?_
      refine x_iadd 911 rfl dL_law_910 ?_
      obtain ⟨hz, h⟩ := x_ifn h
      refine z_sald Z dL_law_911 hz 912 rfl ?_
      obtain ⟨⟨q76r, q76s⟩, q76h, h⟩ := x_bind h
      try dsimp only at h
      refine z_callV E [.int _, .int _] [] dL_law_912 K_RL_163 ⟨Nat.le_of_ble_eq_true rfl, Nat.le_of_ble_eq_true rfl⟩ sh_60 (by decide) rfl (c_Mo_chalk_60 E _ _ q76h) rfl rfl (Nat.le_of_ble_eq_true rfl) 915 rfl [.int _] rfl ?_
      refine x_istore 917 rfl dL_law_915 (by decide) [some (.ref 1500), some (.ref 0), some (.ref 60), some (.ref 96), some (.int _), some (.int _), some (.int _)] rfl ?_
      refine x_aload_n 918 rfl 2 dL_law_917 rfl rfl ?_
      obtain ⟨⟨q78r, q78s⟩, q78h, h⟩ := x_bind h
      try dsimp only at h
      refine z_callV E [] [] dL_law_918 K_RL_109 ⟨Nat.le_of_ble_eq_true rfl, Nat.le_of_ble_eq_true rfl⟩ sh_60 (by decide) rfl (c_Mo_thrown_60 E  q78h) rfl rfl (Nat.le_of_ble_eq_true rfl) 921 rfl [.int _] rfl ?_
      refine x_iload 923 rfl dL_law_921 rfl ?_
      refine x_icmp_eq 926 rfl 928 dL_law_923 (by decide) (fun hc => ?_) (fun hc => ?_)
      · replace h := x_ifT hc h
        refine x_iload 930 rfl dL_law_928 rfl ?_
        refine x_if_ne 933 rfl 945 dL_law_930 (by decide) (fun hc => ?_) (fun hc => ?_)
        · replace h := x_ifF hc h
          refine x_goto 2205 dL_law_945 (by decide) ?_
          refine x_iinc 2208 rfl (6) dL_law_2205 rfl (by decide) (by decide) [some (.ref 1500), some (.ref 0), some (.ref 60), some (.ref 96), some (.int _), some (.int _), some (.int _)] rfl ?_
          refine x_goto 23 dL_law_2208 (by decide) ?_
          cases h
          exact x_wk (x_le_s (x_le_s (x_le_s (x_le_s (x_le_s (x_le_n (x_le_n x_le_0))))))) (hG (_, _) rfl)
        · replace h := x_ifT hc h
          refine x_aload_n 934 rfl 3 dL_law_933 rfl rfl ?_
          refine x_iconst 935 rfl (v := 0) dL_law_934 (by decide) ?_
          refine x_lald E dL_law_935 sh_96 0 (by decide) (by decide) 936 rfl ?_
          refine x_iload 938 rfl dL_law_936 rfl ?_
          refine x_i2l 939 rfl dL_law_938 ?_
          refine x_lcmp 940 rfl dL_law_939 ?_
          refine x_if_eq 943 rfl 945 dL_law_940 (by decide) (fun hc => ?_) (fun hc => ?_)
          · replace h := x_ifT hc h
            refine x_goto 2205 dL_law_945 (by decide) ?_
            refine x_iinc 2208 rfl (6) dL_law_2205 rfl (by decide) (by decide) [some (.ref 1500), some (.ref 0), some (.ref 60), some (.ref 96), some (.int _), some (.int _), some (.int _)] rfl ?_
            refine x_goto 23 dL_law_2208 (by decide) ?_
            cases h
            exact x_wk (x_le_s (x_le_s (x_le_s (x_le_s (x_le_s (x_le_n (x_le_n x_le_0))))))) (hG (_, _) rfl)
          · replace h := x_ifF hc h
            refine x_iconst 944 rfl (v := 0) dL_law_943 (by decide) ?_
            cases h
      · replace h := x_ifF hc h
        refine x_iconst 927 rfl (v := 0) dL_law_926 (by decide) ?_
        cases h
    replace h := x_ifF hc15 h
    refine x_case (16) (fun hc16 => ?_) (fun hc16 => ?_)
    · replace h := x_ifT hc16 h
      refine x_tabIn (off := 908) 948 dL_law_40 (by rw [hc16]; decide) (by rw [hc16]; decide) (by rw [hc16]; rfl) (by decide) ?_
      refine x_aload_n 949 rfl 1 dL_law_948 rfl rfl ?_
      obtain ⟨⟨q81r, q81s⟩, q81h, h⟩ := x_bind h
      try dsimp only at h
      refine z_callV E [] [] dL_law_949 K_RL_164 ⟨Nat.le_of_ble_eq_true rfl, Nat.le_of_ble_eq_true rfl⟩ sh_0 (by decide) rfl (c_RH_undo_0 E  q81h) rfl rfl (Nat.le_of_ble_eq_true rfl) 952 rfl [.int _] rfl ?_
      refine x_aload_n 953 rfl 2 dL_law_952 rfl rfl ?_
      obtain ⟨⟨q82r, q82s⟩, q82h, h⟩ := x_bind h
      try dsimp only at h
      refine z_callV E [] [.int _] dL_law_953 K_RL_167 ⟨Nat.le_of_ble_eq_true rfl, Nat.le_of_ble_eq_true rfl⟩ sh_60 (by decide) rfl (c_Mo_undo_60 E  q82h) rfl rfl (Nat.le_of_ble_eq_true rfl) 956 rfl [.int _, .int _] rfl ?_
      refine x_icmp_eq 959 rfl 2205 dL_law_956 (by decide) (fun hc => ?_) (fun hc => ?_)
      · replace h := x_ifT hc h
        refine x_iinc 2208 rfl (6) dL_law_2205 rfl (by decide) (by decide) [some (.ref 1500), some (.ref 0), some (.ref 60), some (.ref 96), some (.int _), none, none] rfl ?_
        refine x_goto 23 dL_law_2208 (by decide) ?_
        cases h
        exact x_wk (x_le_s (x_le_s (x_le_s (x_le_s (x_le_s (x_le_n (x_le_n x_le_0))))))) (x_less (Nat.le_succ _) (Nat.le_add_right _ _) (hG (_, _) rfl))
      · replace h := x_ifF hc h
        refine x_iconst 960 rfl (v := 0) dL_law_959 (by decide) ?_
        cases h
    replace h := x_ifF hc16 h
    refine x_case (17) (fun hc17 => ?_) (fun hc17 => ?_)
    · replace h := x_ifT hc17 h
      refine x_tabIn (off := 921) 961 dL_law_40 (by rw [hc17]; decide) (by rw [hc17]; decide) (by rw [hc17]; rfl) (by decide) ?_
      refine x_aload_n 962 rfl 1 dL_law_961 rfl rfl ?_
      refine x_aload_n 963 rfl 0 dL_law_962 rfl rfl ?_
      refine x_iload 965 rfl dL_law_963 rfl ?_
      refine x_iconst 966 rfl (v := 1) dL_law_965 (by decide) ?_
      refine x_iadd 967 rfl dL_law_966 ?_
      obtain ⟨hz, h⟩ := x_ifn h
      refine z_sald Z dL_law_967 hz 968 rfl ?_
      refine x_aload_n 969 rfl 3 dL_law_968 rfl rfl ?_
      obtain ⟨⟨q84r, q84s⟩, q84h, h⟩ := x_bind h
      try dsimp only at h
      refine z_callHd (bc := bc) (bs := bs) E [.ref 0, .int _, .ref 96] [] dL_law_969 KC_RL_168 ⟨(Nat.le_of_ble_eq_true rfl), (Nat.le_of_ble_eq_true rfl)⟩ rfl rfl (Nat.le_of_ble_eq_true rfl) rfl rfl (cw_best E _ q84h) 972 rfl [.int _] rfl ?_
      refine x_istore 974 rfl dL_law_972 (by decide) [some (.ref 1500), some (.ref 0), some (.ref 60), some (.ref 96), some (.int _), some (.int _), none] rfl ?_
      refine x_aload_n 975 rfl 2 dL_law_974 rfl rfl ?_
      refine x_aload_n 976 rfl 0 dL_law_975 rfl rfl ?_
      refine x_iload 978 rfl dL_law_976 rfl ?_
      refine x_iconst 979 rfl (v := 1) dL_law_978 (by decide) ?_
      refine x_iadd 980 rfl dL_law_979 ?_
      obtain ⟨hz, h⟩ := x_ifn h
      refine z_sald Z dL_law_980 hz 981 rfl ?_
      obtain ⟨⟨q86r, q86s⟩, q86h, h⟩ := x_bind h
      try dsimp only at h
      refine z_callV E [.int _] [] dL_law_981 K_RL_170 ⟨Nat.le_of_ble_eq_true rfl, Nat.le_of_ble_eq_true rfl⟩ sh_60 (by decide) rfl (c_Mo_best_60 E _ q86h) rfl rfl (Nat.le_of_ble_eq_true rfl) 984 rfl [.int _] rfl ?_
      refine x_istore 986 rfl dL_law_984 (by decide) [some (.ref 1500), some (.ref 0), some (.ref 60), some (.ref 96), some (.int _), some (.int _), some (.int _)] rfl ?_
      refine x_aload_n 987 rfl 2 dL_law_986 rfl rfl ?_
      obtain ⟨⟨q88r, q88s⟩, q88h, h⟩ := x_bind h
      try dsimp only at h
      refine z_callV E [] [] dL_law_987 K_RL_109 ⟨Nat.le_of_ble_eq_true rfl, Nat.le_of_ble_eq_true rfl⟩ sh_60 (by decide) rfl (c_Mo_thrown_60 E  q88h) rfl rfl (Nat.le_of_ble_eq_true rfl) 990 rfl [.int _] rfl ?_
      refine x_iload 992 rfl dL_law_990 rfl ?_
      refine x_icmp_eq 995 rfl 997 dL_law_992 (by decide) (fun hc => ?_) (fun hc => ?_)
      · replace h := x_ifT hc h
        refine x_iload 999 rfl dL_law_997 rfl ?_
        refine x_if_ne 1002 rfl 1014 dL_law_999 (by decide) (fun hc => ?_) (fun hc => ?_)
        · replace h := x_ifF hc h
          refine x_goto 2205 dL_law_1014 (by decide) ?_
          refine x_iinc 2208 rfl (6) dL_law_2205 rfl (by decide) (by decide) [some (.ref 1500), some (.ref 0), some (.ref 60), some (.ref 96), some (.int _), some (.int _), some (.int _)] rfl ?_
          refine x_goto 23 dL_law_2208 (by decide) ?_
          cases h
          exact x_wk (x_le_s (x_le_s (x_le_s (x_le_s (x_le_s (x_le_n (x_le_n x_le_0))))))) (hG (_, _) rfl)
        · replace h := x_ifT hc h
          refine x_aload_n 1003 rfl 3 dL_law_1002 rfl rfl ?_
          refine x_iconst 1004 rfl (v := 0) dL_law_1003 (by decide) ?_
          refine x_lald E dL_law_1004 sh_96 0 (by decide) (by decide) 1005 rfl ?_
          refine x_iload 1007 rfl dL_law_1005 rfl ?_
          refine x_i2l 1008 rfl dL_law_1007 ?_
          refine x_lcmp 1009 rfl dL_law_1008 ?_
          refine x_if_eq 1012 rfl 1014 dL_law_1009 (by decide) (fun hc => ?_) (fun hc => ?_)
          · replace h := x_ifT hc h
            refine x_goto 2205 dL_law_1014 (by decide) ?_
            refine x_iinc 2208 rfl (6) dL_law_2205 rfl (by decide) (by decide) [some (.ref 1500), some (.ref 0), some (.ref 60), some (.ref 96), some (.int _), some (.int _), some (.int _)] rfl ?_
            refine x_goto 23 dL_law_2208 (by decide) ?_
            cases h
            exact x_wk (x_le_s (x_le_s (x_le_s (x_le_s (x_le_s (x_le_n (x_le_n x_le_0))))))) (hG (_, _) rfl)
          · replace h := x_ifF hc h
            refine x_iconst 1013 rfl (v := 0) dL_law_1012 (by decide) ?_
            cases h
      · replace h := x_ifF hc h
        refine x_iconst 996 rfl (v := 0) dL_law_995 (by decide) ?_
        cases h
    replace h := x_ifF hc17 h
    refine x_case (18) (fun hc18 => ?_) (fun hc18 => ?_)
    · replace h := x_ifT hc18 h
      refine x_tabIn (off := 977) 1017 dL_law_40 (by rw [hc18]; decide) (by rw [hc18]; decide) (by rw [hc18]; rfl) (by decide) ?_
      refine x_aload_n 1018 rfl 1 dL_law_1017 rfl rfl ?_
      refine x_aload_n 1019 rfl 0 dL_law_1018 rfl rfl ?_
      refine x_iload 1021 rfl dL_law_1019 rfl ?_
      refine x_iconst 1022 rfl (v := 1) dL_law_1021 (by decide) ?_
      refine x_iadd 1023 rfl dL_law_1022 ?_
      obtain ⟨hz, h⟩ := x_ifn h
      refine z_sald Z dL_law_1023 hz 1024 rfl ?_
      refine x_aload_n 1025 rfl 3 dL_law_1024 rfl rfl ?_
      obtain ⟨⟨q91r, q91s⟩, q91h, h⟩ := x_bind h
      try dsimp only at h
      refine z_callHd (bc := bc) (bs := bs) E [.ref 0, .int _, .ref 96] [] dL_law_1025 KC_RL_171 ⟨(Nat.le_of_ble_eq_true rfl), (Nat.le_of_ble_eq_true rfl)⟩ rfl rfl (Nat.le_of_ble_eq_true rfl) rfl rfl (cw_foretell E _ q91h) 1028 rfl [.int _] rfl ?_
      refine x_istore 1030 rfl dL_law_1028 (by decide) [some (.ref 1500), some (.ref 0), some (.ref 60), some (.ref 96), some (.int _), some (.int _), none] rfl ?_
      refine x_aload_n 1031 rfl 2 dL_law_1030 rfl rfl ?_
      refine x_aload_n 1032 rfl 0 dL_law_1031 rfl rfl ?_
      refine x_iload 1034 rfl dL_law_1032 rfl ?_
      refine x_iconst 1035 rfl (v := 1) dL_law_1034 (by decide) ?_
      refine x_iadd 1036 rfl dL_law_1035 ?_
      obtain ⟨hz, h⟩ := x_ifn h
      refine z_sald Z dL_law_1036 hz 1037 rfl ?_
      obtain ⟨⟨q93r, q93s⟩, q93h, h⟩ := x_bind h
      try dsimp only at h
      refine z_callV E [.int _] [] dL_law_1037 K_RL_173 ⟨Nat.le_of_ble_eq_true rfl, Nat.le_of_ble_eq_true rfl⟩ sh_60 (by decide) rfl (c_Mo_foretell_60 E _ q93h) rfl rfl (Nat.le_of_ble_eq_true rfl) 1040 rfl [.int _] rfl ?_
      refine x_istore 1042 rfl dL_law_1040 (by decide) [some (.ref 1500), some (.ref 0), some (.ref 60), some (.ref 96), some (.int _), some (.int _), some (.int _)] rfl ?_
      refine x_aload_n 1043 rfl 2 dL_law_1042 rfl rfl ?_
      obtain ⟨⟨q95r, q95s⟩, q95h, h⟩ := x_bind h
      try dsimp only at h
      refine z_callV E [] [] dL_law_1043 K_RL_109 ⟨Nat.le_of_ble_eq_true rfl, Nat.le_of_ble_eq_true rfl⟩ sh_60 (by decide) rfl (c_Mo_thrown_60 E  q95h) rfl rfl (Nat.le_of_ble_eq_true rfl) 1046 rfl [.int _] rfl ?_
      refine x_iload 1048 rfl dL_law_1046 rfl ?_
      refine x_icmp_eq 1051 rfl 1053 dL_law_1048 (by decide) (fun hc => ?_) (fun hc => ?_)
      · replace h := x_ifT hc h
        refine x_iload 1055 rfl dL_law_1053 rfl ?_
        refine x_if_ne 1058 rfl 1070 dL_law_1055 (by decide) (fun hc => ?_) (fun hc => ?_)
        · replace h := x_ifF hc h
          refine x_goto 2205 dL_law_1070 (by decide) ?_
          refine x_iinc 2208 rfl (6) dL_law_2205 rfl (by decide) (by decide) [some (.ref 1500), some (.ref 0), some (.ref 60), some (.ref 96), some (.int _), some (.int _), some (.int _)] rfl ?_
          refine x_goto 23 dL_law_2208 (by decide) ?_
          cases h
          exact x_wk (x_le_s (x_le_s (x_le_s (x_le_s (x_le_s (x_le_n (x_le_n x_le_0))))))) (hG (_, _) rfl)
        · replace h := x_ifT hc h
          refine x_aload_n 1059 rfl 3 dL_law_1058 rfl rfl ?_
          refine x_iconst 1060 rfl (v := 0) dL_law_1059 (by decide) ?_
          refine x_lald E dL_law_1060 sh_96 0 (by decide) (by decide) 1061 rfl ?_
          refine x_iload 1063 rfl dL_law_1061 rfl ?_
          refine x_i2l 1064 rfl dL_law_1063 ?_
          refine x_lcmp 1065 rfl dL_law_1064 ?_
          refine x_if_eq 1068 rfl 1070 dL_law_1065 (by decide) (fun hc => ?_) (fun hc => ?_)
          · replace h := x_ifT hc h
            refine x_goto 2205 dL_law_1070 (by decide) ?_
            refine x_iinc 2208 rfl (6) dL_law_2205 rfl (by decide) (by decide) [some (.ref 1500), some (.ref 0), some (.ref 60), some (.ref 96), some (.int _), some (.int _), some (.int _)] rfl ?_
            refine x_goto 23 dL_law_2208 (by decide) ?_
            cases h
            exact x_wk (x_le_s (x_le_s (x_le_s (x_le_s (x_le_s (x_le_n (x_le_n x_le_0))))))) (hG (_, _) rfl)
          · replace h := x_ifF hc h
            refine x_iconst 1069 rfl (v := 0) dL_law_1068 (by decide) ?_
            cases h
      · replace h := x_ifF hc h
        refine x_iconst 1052 rfl (v := 0) dL_law_1051 (by decide) ?_
        cases h
    replace h := x_ifF hc18 h
    refine x_case (19) (fun hc19 => ?_) (fun hc19 => ?_)
    · replace h := x_ifT hc19 h
      refine x_tabIn (off := 1033) 1073 dL_law_40 (by rw [hc19]; decide) (by rw [hc19]; decide) (by rw [hc19]; rfl) (by decide) ?_
      refine x_aload_n 1074 rfl 1 dL_law_1073 rfl rfl ?_
      refine x_aload_n 1075 rfl 0 dL_law_1074 rfl rfl ?_
      refine x_iload 1077 rfl dL_law_1075 rfl ?_
      refine x_iconst 1078 rfl (v := 1) dL_law_1077 (by decide) ?_
      refine x_iadd 1079 rfl dL_law_1078 ?_
      obtain ⟨hz, h⟩ := x_ifn h
      refine z_sald Z dL_law_1079 hz 1080 rfl ?_
      refine x_aload_n 1081 rfl 3 dL_law_1080 rfl rfl ?_
      obtain ⟨⟨q98r, q98s⟩, q98h, h⟩ := x_bind h
      try dsimp only at h
      refine z_callHd (bc := bc) (bs := bs) E [.ref 0, .int _, .ref 96] [] dL_law_1081 KC_RL_174 ⟨(Nat.le_of_ble_eq_true rfl), (Nat.le_of_ble_eq_true rfl)⟩ rfl rfl (Nat.le_of_ble_eq_true rfl) rfl rfl (cw_holes E _ q98h) 1084 rfl [.int _] rfl ?_
      refine x_istore 1086 rfl dL_law_1084 (by decide) [some (.ref 1500), some (.ref 0), some (.ref 60), some (.ref 96), some (.int _), some (.int _), none] rfl ?_
      refine x_aload_n 1087 rfl 2 dL_law_1086 rfl rfl ?_
      refine x_aload_n 1088 rfl 0 dL_law_1087 rfl rfl ?_
      refine x_iload 1090 rfl dL_law_1088 rfl ?_
      refine x_iconst 1091 rfl (v := 1) dL_law_1090 (by decide) ?_
      refine x_iadd 1092 rfl dL_law_1091 ?_
      obtain ⟨hz, h⟩ := x_ifn h
      refine z_sald Z dL_law_1092 hz 1093 rfl ?_
      obtain ⟨⟨q100r, q100s⟩, q100h, h⟩ := x_bind h
      try dsimp only at h
      refine z_callV E [.int _] [] dL_law_1093 K_RL_176 ⟨Nat.le_of_ble_eq_true rfl, Nat.le_of_ble_eq_true rfl⟩ sh_60 (by decide) rfl (c_Mo_holes_60 E _ q100h) rfl rfl (Nat.le_of_ble_eq_true rfl) 1096 rfl [.int _] rfl ?_
      refine x_istore 1098 rfl dL_law_1096 (by decide) [some (.ref 1500), some (.ref 0), some (.ref 60), some (.ref 96), some (.int _), some (.int _), some (.int _)] rfl ?_
      refine x_aload_n 1099 rfl 2 dL_law_1098 rfl rfl ?_
      obtain ⟨⟨q102r, q102s⟩, q102h, h⟩ := x_bind h
      try dsimp only at h
      refine z_callV E [] [] dL_law_1099 K_RL_109 ⟨Nat.le_of_ble_eq_true rfl, Nat.le_of_ble_eq_true rfl⟩ sh_60 (by decide) rfl (c_Mo_thrown_60 E  q102h) rfl rfl (Nat.le_of_ble_eq_true rfl) 1102 rfl [.int _] rfl ?_
      refine x_iload 1104 rfl dL_law_1102 rfl ?_
      refine x_icmp_eq 1107 rfl 1109 dL_law_1104 (by decide) (fun hc => ?_) (fun hc => ?_)
      · replace h := x_ifT hc h
        refine x_iload 1111 rfl dL_law_1109 rfl ?_
        refine x_if_ne 1114 rfl 1126 dL_law_1111 (by decide) (fun hc => ?_) (fun hc => ?_)
        · replace h := x_ifF hc h
          refine x_goto 2205 dL_law_1126 (by decide) ?_
          refine x_iinc 2208 rfl (6) dL_law_2205 rfl (by decide) (by decide) [some (.ref 1500), some (.ref 0), some (.ref 60), some (.ref 96), some (.int _), some (.int _), some (.int _)] rfl ?_
          refine x_goto 23 dL_law_2208 (by decide) ?_
          cases h
          exact x_wk (x_le_s (x_le_s (x_le_s (x_le_s (x_le_s (x_le_n (x_le_n x_le_0))))))) (hG (_, _) rfl)
        · replace h := x_ifT hc h
          refine x_aload_n 1115 rfl 3 dL_law_1114 rfl rfl ?_
          refine x_iconst 1116 rfl (v := 0) dL_law_1115 (by decide) ?_
          refine x_lald E dL_law_1116 sh_96 0 (by decide) (by decide) 1117 rfl ?_
          refine x_iload 1119 rfl dL_law_1117 rfl ?_
          refine x_i2l 1120 rfl dL_law_1119 ?_
          refine x_lcmp 1121 rfl dL_law_1120 ?_
          refine x_if_eq 1124 rfl 1126 dL_law_1121 (by decide) (fun hc => ?_) (fun hc => ?_)
          · replace h := x_ifT hc h
            refine x_goto 2205 dL_law_1126 (by decide) ?_
            refine x_iinc 2208 rfl (6) dL_law_2205 rfl (by decide) (by decide) [some (.ref 1500), some (.ref 0), some (.ref 60), some (.ref 96), some (.int _), some (.int _), some (.int _)] rfl ?_
            refine x_goto 23 dL_law_2208 (by decide) ?_
            cases h
            exact x_wk (x_le_s (x_le_s (x_le_s (x_le_s (x_le_s (x_le_n (x_le_n x_le_0))))))) (hG (_, _) rfl)
          · replace h := x_ifF hc h
            refine x_iconst 1125 rfl (v := 0) dL_law_1124 (by decide) ?_
            cases h
      · replace h := x_ifF hc h
        refine x_iconst 1108 rfl (v := 0) dL_law_1107 (by decide) ?_
        cases h
    replace h := x_ifF hc19 h
    refine x_case (20) (fun hc20 => ?_) (fun hc20 => ?_)
    · replace h := x_ifT hc20 h
      refine x_tabIn (off := 1089) 1129 dL_law_40 (by rw [hc20]; decide) (by rw [hc20]; decide) (by rw [hc20]; rfl) (by decide) ?_
      refine x_aload_n 1130 rfl 1 dL_law_1129 rfl rfl ?_
      refine x_aload_n 1131 rfl 0 dL_law_1130 rfl rfl ?_
      refine x_iload 1133 rfl dL_law_1131 rfl ?_
      refine x_iconst 1134 rfl (v := 1) dL_law_1133 (by decide) ?_
      refine x_iadd 1135 rfl dL_law_1134 ?_
      obtain ⟨hz, h⟩ := x_ifn h
      refine z_sald Z dL_law_1135 hz 1136 rfl ?_
      refine x_aload_n 1137 rfl 0 dL_law_1136 rfl rfl ?_
      refine x_iload 1139 rfl dL_law_1137 rfl ?_
      refine x_iconst 1140 rfl (v := 2) dL_law_1139 (by decide) ?_
      refine x_iadd 1141 rfl dL_law_1140 ?_
      obtain ⟨hz, h⟩ := x_ifn h
      refine z_sald Z dL_law_1141 hz 1142 rfl ?_
      refine x_aload_n 1143 rfl 3 dL_law_1142 rfl rfl ?_
      obtain ⟨⟨q105r, q105s⟩, q105h, h⟩ := x_bind h
      try dsimp only at h
      refine z_callHd (bc := bc) (bs := bs) E [.ref 0, .int _, .int _, .ref 96] [] dL_law_1143 KC_RL_177 ⟨(Nat.le_of_ble_eq_true rfl), (Nat.le_of_ble_eq_true rfl)⟩ rfl rfl (Nat.le_of_ble_eq_true rfl) rfl rfl (cw_light E _ _ q105h) 1146 rfl [.int _] rfl ?_
      refine x_istore 1148 rfl dL_law_1146 (by decide) [some (.ref 1500), some (.ref 0), some (.ref 60), some (.ref 96), some (.int _), some (.int _), none] rfl ?_
      refine x_aload_n 1149 rfl 2 dL_law_1148 rfl rfl ?_
      refine x_aload_n 1150 rfl 0 dL_law_1149 rfl rfl ?_
      refine x_iload 1152 rfl dL_law_1150 rfl ?_
      refine x_iconst 1153 rfl (v := 1) dL_law_1152 (by decide) ?_
      refine x_iadd 1154 rfl dL_law_1153 ?_
      obtain ⟨hz, h⟩ := x_ifn h
      refine z_sald Z dL_law_1154 hz 1155 rfl ?_
      refine x_aload_n 1156 rfl 0 dL_law_1155 rfl rfl ?_
      refine x_iload 1158 rfl dL_law_1156 rfl ?_
      refine x_iconst 1159 rfl (v := 2) dL_law_1158 (by decide) ?_
      refine x_iadd 1160 rfl dL_law_1159 ?_
      obtain ⟨hz, h⟩ := x_ifn h
      refine z_sald Z dL_law_1160 hz 1161 rfl ?_
      obtain ⟨⟨q107r, q107s⟩, q107h, h⟩ := x_bind h
      try dsimp only at h
      refine z_callV E [.int _, .int _] [] dL_law_1161 K_RL_179 ⟨Nat.le_of_ble_eq_true rfl, Nat.le_of_ble_eq_true rfl⟩ sh_60 (by decide) rfl (c_Mo_light_60 E _ _ q107h) rfl rfl (Nat.le_of_ble_eq_true rfl) 1164 rfl [.int _] rfl ?_
      refine x_istore 1166 rfl dL_law_1164 (by decide) [some (.ref 1500), some (.ref 0), some (.ref 60), some (.ref 96), some (.int _), some (.int _), some (.int _)] rfl ?_
      refine x_aload_n 1167 rfl 2 dL_law_1166 rfl rfl ?_
      obtain ⟨⟨q109r, q109s⟩, q109h, h⟩ := x_bind h
      try dsimp only at h
      refine z_callV E [] [] dL_law_1167 K_RL_109 ⟨Nat.le_of_ble_eq_true rfl, Nat.le_of_ble_eq_true rfl⟩ sh_60 (by decide) rfl (c_Mo_thrown_60 E  q109h) rfl rfl (Nat.le_of_ble_eq_true rfl) 1170 rfl [.int _] rfl ?_
      refine x_iload 1172 rfl dL_law_1170 rfl ?_
      refine x_icmp_eq 1175 rfl 1177 dL_law_1172 (by decide) (fun hc => ?_) (fun hc => ?_)
      · replace h := x_ifT hc h
        refine x_iload 1179 rfl dL_law_1177 rfl ?_
        refine x_if_ne 1182 rfl 1194 dL_law_1179 (by decide) (fun hc => ?_) (fun hc => ?_)
        · replace h := x_ifF hc h
          refine x_goto 2205 dL_law_1194 (by decide) ?_
          refine x_iinc 2208 rfl (6) dL_law_2205 rfl (by decide) (by decide) [some (.ref 1500), some (.ref 0), some (.ref 60), some (.ref 96), some (.int _), some (.int _), some (.int _)] rfl ?_
          refine x_goto 23 dL_law_2208 (by decide) ?_
          cases h
          exact x_wk (x_le_s (x_le_s (x_le_s (x_le_s (x_le_s (x_le_n (x_le_n x_le_0))))))) (hG (_, _) rfl)
        · replace h := x_ifT hc h
          refine x_aload_n 1183 rfl 3 dL_law_1182 rfl rfl ?_
          refine x_iconst 1184 rfl (v := 0) dL_law_1183 (by decide) ?_
          refine x_lald E dL_law_1184 sh_96 0 (by decide) (by decide) 1185 rfl ?_
          refine x_iload 1187 rfl dL_law_1185 rfl ?_
          refine x_i2l 1188 rfl dL_law_1187 ?_
          refine x_lcmp 1189 rfl dL_law_1188 ?_
          refine x_if_eq 1192 rfl 1194 dL_law_1189 (by decide) (fun hc => ?_) (fun hc => ?_)
          · replace h := x_ifT hc h
            refine x_goto 2205 dL_law_1194 (by decide) ?_
            refine x_iinc 2208 rfl (6) dL_law_2205 rfl (by decide) (by decide) [some (.ref 1500), some (.ref 0), some (.ref 60), some (.ref 96), some (.int _), some (.int _), some (.int _)] rfl ?_
            refine x_goto 23 dL_law_2208 (by decide) ?_
            cases h
            exact x_wk (x_le_s (x_le_s (x_le_s (x_le_s (x_le_s (x_le_n (x_le_n x_le_0))))))) (hG (_, _) rfl)
          · replace h := x_ifF hc h
            refine x_iconst 1193 rfl (v := 0) dL_law_1192 (by decide) ?_
            cases h
      · replace h := x_ifF hc h
        refine x_iconst 1176 rfl (v := 0) dL_law_1175 (by decide) ?_
        cases h
    replace h := x_ifF hc20 h
    refine x_case (21) (fun hc21 => ?_) (fun hc21 => ?_)
    · replace h := x_ifT hc21 h
      refine x_tabIn (off := 1157) 1197 dL_law_40 (by rw [hc21]; decide) (by rw [hc21]; decide) (by rw [hc21]; rfl) (by decide) ?_
      refine x_aload_n 1198 rfl 1 dL_law_1197 rfl rfl ?_
      obtain ⟨⟨q112r, q112s⟩, q112h, h⟩ := x_bind h
      try dsimp only at h
      refine z_callV E [] [] dL_law_1198 K_RL_180 ⟨Nat.le_of_ble_eq_true rfl, Nat.le_of_ble_eq_true rfl⟩ sh_0 (by decide) rfl (c_RH_both_0 E  q112h) rfl rfl (Nat.le_of_ble_eq_true rfl) 1201 rfl [.int _] rfl ?_
      refine x_aload_n 1202 rfl 2 dL_law_1201 rfl rfl ?_
      obtain ⟨⟨q113r, q113s⟩, q113h, h⟩ := x_bind h
      try dsimp only at h
      refine z_callV E [] [.int _] dL_law_1202 K_RL_183 ⟨Nat.le_of_ble_eq_true rfl, Nat.le_of_ble_eq_true rfl⟩ sh_60 (by decide) rfl (c_Mo_both_60 E  q113h) rfl rfl (Nat.le_of_ble_eq_true rfl) 1205 rfl [.int _, .int _] rfl ?_
      refine x_icmp_eq 1208 rfl 2205 dL_law_1205 (by decide) (fun hc => ?_) (fun hc => ?_)
      · replace h := x_ifT hc h
        refine x_iinc 2208 rfl (6) dL_law_2205 rfl (by decide) (by decide) [some (.ref 1500), some (.ref 0), some (.ref 60), some (.ref 96), some (.int _), none, none] rfl ?_
        refine x_goto 23 dL_law_2208 (by decide) ?_
        cases h
        exact x_wk (x_le_s (x_le_s (x_le_s (x_le_s (x_le_s (x_le_n (x_le_n x_le_0))))))) (x_less (Nat.le_succ _) (Nat.le_add_right _ _) (hG (_, _) rfl))
      · replace h := x_ifF hc h
        refine x_iconst 1209 rfl (v := 0) dL_law_1208 (by decide) ?_
        cases h
    replace h := x_ifF hc21 h
    refine x_case (22) (fun hc22 => ?_) (fun hc22 => ?_)
    · replace h := x_ifT hc22 h
      refine x_tabIn (off := 1170) 1210 dL_law_40 (by rw [hc22]; decide) (by rw [hc22]; decide) (by rw [hc22]; rfl) (by decide) ?_
      refine x_aload_n 1211 rfl 1 dL_law_1210 rfl rfl ?_
      refine x_aload_n 1212 rfl 0 dL_law_1211 rfl rfl ?_
      refine x_iload 1214 rfl dL_law_1212 rfl ?_
      refine x_iconst 1215 rfl (v := 1) dL_law_1214 (by decide) ?_
      refine x_iadd 1216 rfl dL_law_1215 ?_
      obtain ⟨hz, h⟩ := x_ifn h
      refine z_sald Z dL_law_1216 hz 1217 rfl ?_
      refine x_aload_n 1218 rfl 3 dL_law_1217 rfl rfl ?_
      obtain ⟨⟨q115r, q115s⟩, q115h, h⟩ := x_bind h
      try dsimp only at h
      refine z_callHd (bc := bc) (bs := bs) E [.ref 0, .int _, .ref 96] [] dL_law_1218 KC_RL_184 ⟨(Nat.le_of_ble_eq_true rfl), (Nat.le_of_ble_eq_true rfl)⟩ rfl rfl (Nat.le_of_ble_eq_true rfl) rfl rfl (cw_marks E _ q115h) 1221 rfl [.int _] rfl ?_
      refine x_istore 1223 rfl dL_law_1221 (by decide) [some (.ref 1500), some (.ref 0), some (.ref 60), some (.ref 96), some (.int _), some (.int _), none] rfl ?_
      refine x_aload_n 1224 rfl 2 dL_law_1223 rfl rfl ?_
      refine x_aload_n 1225 rfl 0 dL_law_1224 rfl rfl ?_
      refine x_iload 1227 rfl dL_law_1225 rfl ?_
      refine x_iconst 1228 rfl (v := 1) dL_law_1227 (by decide) ?_
      refine x_iadd 1229 rfl dL_law_1228 ?_
      obtain ⟨hz, h⟩ := x_ifn h
      refine z_sald Z dL_law_1229 hz 1230 rfl ?_
      obtain ⟨⟨q117r, q117s⟩, q117h, h⟩ := x_bind h
      try dsimp only at h
      refine z_callV E [.int _] [] dL_law_1230 K_RL_186 ⟨Nat.le_of_ble_eq_true rfl, Nat.le_of_ble_eq_true rfl⟩ sh_60 (by decide) rfl (c_Mo_marks_60 E _ q117h) rfl rfl (Nat.le_of_ble_eq_true rfl) 1233 rfl [.int _] rfl ?_
      refine x_istore 1235 rfl dL_law_1233 (by decide) [some (.ref 1500), some (.ref 0), some (.ref 60), some (.ref 96), some (.int _), some (.int _), some (.int _)] rfl ?_
      refine x_aload_n 1236 rfl 2 dL_law_1235 rfl rfl ?_
      obtain ⟨⟨q119r, q119s⟩, q119h, h⟩ := x_bind h
      try dsimp only at h
      refine z_callV E [] [] dL_law_1236 K_RL_109 ⟨Nat.le_of_ble_eq_true rfl, Nat.le_of_ble_eq_true rfl⟩ sh_60 (by decide) rfl (c_Mo_thrown_60 E  q119h) rfl rfl (Nat.le_of_ble_eq_true rfl) 1239 rfl [.int _] rfl ?_
      refine x_iload 1241 rfl dL_law_1239 rfl ?_
      refine x_icmp_eq 1244 rfl 1246 dL_law_1241 (by decide) (fun hc => ?_) (fun hc => ?_)
      · replace h := x_ifT hc h
        refine x_iload 1248 rfl dL_law_1246 rfl ?_
        refine x_if_ne 1251 rfl 1263 dL_law_1248 (by decide) (fun hc => ?_) (fun hc => ?_)
        · replace h := x_ifF hc h
          refine x_goto 2205 dL_law_1263 (by decide) ?_
          refine x_iinc 2208 rfl (6) dL_law_2205 rfl (by decide) (by decide) [some (.ref 1500), some (.ref 0), some (.ref 60), some (.ref 96), some (.int _), some (.int _), some (.int _)] rfl ?_
          refine x_goto 23 dL_law_2208 (by decide) ?_
          cases h
          exact x_wk (x_le_s (x_le_s (x_le_s (x_le_s (x_le_s (x_le_n (x_le_n x_le_0))))))) (hG (_, _) rfl)
        · replace h := x_ifT hc h
          refine x_aload_n 1252 rfl 3 dL_law_1251 rfl rfl ?_
          refine x_iconst 1253 rfl (v := 0) dL_law_1252 (by decide) ?_
          refine x_lald E dL_law_1253 sh_96 0 (by decide) (by decide) 1254 rfl ?_
          refine x_iload 1256 rfl dL_law_1254 rfl ?_
          refine x_i2l 1257 rfl dL_law_1256 ?_
          refine x_lcmp 1258 rfl dL_law_1257 ?_
          refine x_if_eq 1261 rfl 1263 dL_law_1258 (by decide) (fun hc => ?_) (fun hc => ?_)
          · replace h := x_ifT hc h
            refine x_goto 2205 dL_law_1263 (by decide) ?_
            refine x_iinc 2208 rfl (6) dL_law_2205 rfl (by decide) (by decide) [some (.ref 1500), some (.ref 0), some (.ref 60), some (.ref 96), some (.int _), some (.int _), some (.int _)] rfl ?_
            refine x_goto 23 dL_law_2208 (by decide) ?_
            cases h
            exact x_wk (x_le_s (x_le_s (x_le_s (x_le_s (x_le_s (x_le_n (x_le_n x_le_0))))))) (hG (_, _) rfl)
          · replace h := x_ifF hc h
            refine x_iconst 1262 rfl (v := 0) dL_law_1261 (by decide) ?_
            cases h
      · replace h := x_ifF hc h
        refine x_iconst 1245 rfl (v := 0) dL_law_1244 (by decide) ?_
        cases h
    replace h := x_ifF hc22 h
    refine x_case (23) (fun hc23 => ?_) (fun hc23 => ?_)
    · replace h := x_ifT hc23 h
      refine x_tabIn (off := 1226) 1266 dL_law_40 (by rw [hc23]; decide) (by rw [hc23]; decide) (by rw [hc23]; rfl) (by decide) ?_
      refine x_aload_n 1267 rfl 1 dL_law_1266 rfl rfl ?_
      refine x_aload_n 1268 rfl 0 dL_law_1267 rfl rfl ?_
      refine x_iload 1270 rfl dL_law_1268 rfl ?_
      refine x_iconst 1271 rfl (v := 1) dL_law_1270 (by decide) ?_
      refine x_iadd 1272 rfl dL_law_1271 ?_
      obtain ⟨hz, h⟩ := x_ifn h
      refine z_sald Z dL_law_1272 hz 1273 rfl ?_
      refine x_aload_n 1274 rfl 3 dL_law_1273 rfl rfl ?_
      obtain ⟨⟨q122r, q122s⟩, q122h, h⟩ := x_bind h
      try dsimp only at h
      refine z_callHd (bc := bc) (bs := bs) E [.ref 0, .int _, .ref 96] [] dL_law_1274 KC_RL_187 ⟨(Nat.le_of_ble_eq_true rfl), (Nat.le_of_ble_eq_true rfl)⟩ rfl rfl (Nat.le_of_ble_eq_true rfl) rfl rfl (cw_kept E _ q122h) 1277 rfl [.int _] rfl ?_
      refine x_istore 1279 rfl dL_law_1277 (by decide) [some (.ref 1500), some (.ref 0), some (.ref 60), some (.ref 96), some (.int _), some (.int _), none] rfl ?_
      refine x_aload_n 1280 rfl 2 dL_law_1279 rfl rfl ?_
      refine x_aload_n 1281 rfl 0 dL_law_1280 rfl rfl ?_
      refine x_iload 1283 rfl dL_law_1281 rfl ?_
      refine x_iconst 1284 rfl (v := 1) dL_law_1283 (by decide) ?_
      refine x_iadd 1285 rfl dL_law_1284 ?_
      obtain ⟨hz, h⟩ := x_ifn h
      refine z_sald Z dL_law_1285 hz 1286 rfl ?_
      obtain ⟨⟨q124r, q124s⟩, q124h, h⟩ := x_bind h
      try dsimp only at h
      refine z_callV E [.int _] [] dL_law_1286 K_RL_189 ⟨Nat.le_of_ble_eq_true rfl, Nat.le_of_ble_eq_true rfl⟩ sh_60 (by decide) rfl (c_Mo_kept_60 E _ q124h) rfl rfl (Nat.le_of_ble_eq_true rfl) 1289 rfl [.int _] rfl ?_
      refine x_istore 1291 rfl dL_law_1289 (by decide) [some (.ref 1500), some (.ref 0), some (.ref 60), some (.ref 96), some (.int _), some (.int _), some (.int _)] rfl ?_
      refine x_aload_n 1292 rfl 2 dL_law_1291 rfl rfl ?_
      obtain ⟨⟨q126r, q126s⟩, q126h, h⟩ := x_bind h
      try dsimp only at h
      refine z_callV E [] [] dL_law_1292 K_RL_109 ⟨Nat.le_of_ble_eq_true rfl, Nat.le_of_ble_eq_true rfl⟩ sh_60 (by decide) rfl (c_Mo_thrown_60 E  q126h) rfl rfl (Nat.le_of_ble_eq_true rfl) 1295 rfl [.int _] rfl ?_
      refine x_iload 1297 rfl dL_law_1295 rfl ?_
      refine x_icmp_eq 1300 rfl 1302 dL_law_1297 (by decide) (fun hc => ?_) (fun hc => ?_)
      · replace h := x_ifT hc h
        refine x_iload 1304 rfl dL_law_1302 rfl ?_
        refine x_if_ne 1307 rfl 1319 dL_law_1304 (by decide) (fun hc => ?_) (fun hc => ?_)
        · replace h := x_ifF hc h
          refine x_goto 2205 dL_law_1319 (by decide) ?_
          refine x_iinc 2208 rfl (6) dL_law_2205 rfl (by decide) (by decide) [some (.ref 1500), some (.ref 0), some (.ref 60), some (.ref 96), some (.int _), some (.int _), some (.int _)] rfl ?_
          refine x_goto 23 dL_law_2208 (by decide) ?_
          cases h
          exact x_wk (x_le_s (x_le_s (x_le_s (x_le_s (x_le_s (x_le_n (x_le_n x_le_0))))))) (hG (_, _) rfl)
        · replace h := x_ifT hc h
          refine x_aload_n 1308 rfl 3 dL_law_1307 rfl rfl ?_
          refine x_iconst 1309 rfl (v := 0) dL_law_1308 (by decide) ?_
          refine x_lald E dL_law_1309 sh_96 0 (by decide) (by decide) 1310 rfl ?_
          refine x_iload 1312 rfl dL_law_1310 rfl ?_
          refine x_i2l 1313 rfl dL_law_1312 ?_
          refine x_lcmp 1314 rfl dL_law_1313 ?_
          refine x_if_eq 1317 rfl 1319 dL_law_1314 (by decide) (fun hc => ?_) (fun hc => ?_)
          · replace h := x_ifT hc h
            refine x_goto 2205 dL_law_1319 (by decide) ?_
            refine x_iinc 2208 rfl (6) dL_law_2205 rfl (by decide) (by decide) [some (.ref 1500), some (.ref 0), some (.ref 60), some (.ref 96), some (.int _), some (.int _), some (.int _)] rfl ?_
            refine x_goto 23 dL_law_2208 (by decide) ?_
            cases h
            exact x_wk (x_le_s (x_le_s (x_le_s (x_le_s (x_le_s (x_le_n (x_le_n x_le_0))))))) (hG (_, _) rfl)
          · replace h := x_ifF hc h
            refine x_iconst 1318 rfl (v := 0) dL_law_1317 (by decide) ?_
            cases h
      · replace h := x_ifF hc h
        refine x_iconst 1301 rfl (v := 0) dL_law_1300 (by decide) ?_
        cases h
    replace h := x_ifF hc23 h
    refine x_case (24) (fun hc24 => ?_) (fun hc24 => ?_)
    · replace h := x_ifT hc24 h
      refine x_tabIn (off := 1282) 1322 dL_law_40 (by rw [hc24]; decide) (by rw [hc24]; decide) (by rw [hc24]; rfl) (by decide) ?_
      refine x_aload_n 1323 rfl 1 dL_law_1322 rfl rfl ?_
      refine x_aload_n 1324 rfl 0 dL_law_1323 rfl rfl ?_
      refine x_iload 1326 rfl dL_law_1324 rfl ?_
      refine x_iconst 1327 rfl (v := 1) dL_law_1326 (by decide) ?_
      refine x_iadd 1328 rfl dL_law_1327 ?_
      obtain ⟨hz, h⟩ := x_ifn h
      refine z_sald Z dL_law_1328 hz 1329 rfl ?_
      refine x_aload_n 1330 rfl 0 dL_law_1329 rfl rfl ?_
      refine x_iload 1332 rfl dL_law_1330 rfl ?_
      refine x_iconst 1333 rfl (v := 2) dL_law_1332 (by decide) ?_
      refine x_iadd 1334 rfl dL_law_1333 ?_
      obtain ⟨hz, h⟩ := x_ifn h
      refine z_sald Z dL_law_1334 hz 1335 rfl ?_
      refine x_aload_n 1336 rfl 0 dL_law_1335 rfl rfl ?_
      refine x_iload 1338 rfl dL_law_1336 rfl ?_
      refine x_iconst 1339 rfl (v := 3) dL_law_1338 (by decide) ?_
      refine x_iadd 1340 rfl dL_law_1339 ?_
      obtain ⟨hz, h⟩ := x_ifn h
      refine z_sald Z dL_law_1340 hz 1341 rfl ?_
      refine x_aload_n 1342 rfl 0 dL_law_1341 rfl rfl ?_
      refine x_iload 1344 rfl dL_law_1342 rfl ?_
      refine x_iconst 1345 rfl (v := 4) dL_law_1344 (by decide) ?_
      refine x_iadd 1346 rfl dL_law_1345 ?_
      obtain ⟨hz, h⟩ := x_ifn h
      refine z_sald Z dL_law_1346 hz 1347 rfl ?_
      refine x_aload_n 1348 rfl 0 dL_law_1347 rfl rfl ?_
      refine x_iload 1350 rfl dL_law_1348 rfl ?_
      refine x_iconst 1351 rfl (v := 5) dL_law_1350 (by decide) ?_
      refine x_iadd 1352 rfl dL_law_1351 ?_
      obtain ⟨hz, h⟩ := x_ifn h
      refine z_sald Z dL_law_1352 hz 1353 rfl ?_
      refine x_aload_n 1354 rfl 3 dL_law_1353 rfl rfl ?_
      obtain ⟨⟨q129r, q129s⟩, q129h, h⟩ := x_bind h
      try dsimp only at h
      refine z_callHd (bc := bc) (bs := bs) E [.ref 0, .int _, .int _, .int _, .int _, .int _, .ref 96] [] dL_law_1354 KC_RL_190 ⟨(Nat.le_of_ble_eq_true rfl), (Nat.le_of_ble_eq_true rfl)⟩ rfl rfl (Nat.le_of_ble_eq_true rfl) rfl rfl (cw_takes E _ _ _ _ _ q129h) 1357 rfl [.int _] rfl ?_
      refine x_istore 1359 rfl dL_law_1357 (by decide) [some (.ref 1500), some (.ref 0), some (.ref 60), some (.ref 96), some (.int _), some (.int _), none] rfl ?_
      refine x_aload_n 1360 rfl 2 dL_law_1359 rfl rfl ?_
      refine x_aload_n 1361 rfl 0 dL_law_1360 rfl rfl ?_
      refine x_iload 1363 rfl dL_law_1361 rfl ?_
      refine x_iconst 1364 rfl (v := 1) dL_law_1363 (by decide) ?_
      refine x_iadd 1365 rfl dL_law_1364 ?_
      obtain ⟨hz, h⟩ := x_ifn h
      refine z_sald Z dL_law_1365 hz 1366 rfl ?_
      refine x_aload_n 1367 rfl 0 dL_law_1366 rfl rfl ?_
      refine x_iload 1369 rfl dL_law_1367 rfl ?_
      refine x_iconst 1370 rfl (v := 2) dL_law_1369 (by decide) ?_
      refine x_iadd 1371 rfl dL_law_1370 ?_
      obtain ⟨hz, h⟩ := x_ifn h
      refine z_sald Z dL_law_1371 hz 1372 rfl ?_
      refine x_aload_n 1373 rfl 0 dL_law_1372 rfl rfl ?_
      refine x_iload 1375 rfl dL_law_1373 rfl ?_
      refine x_iconst 1376 rfl (v := 3) dL_law_1375 (by decide) ?_
      refine x_iadd 1377 rfl dL_law_1376 ?_
      obtain ⟨hz, h⟩ := x_ifn h
      refine z_sald Z dL_law_1377 hz 1378 rfl ?_
      refine x_aload_n 1379 rfl 0 dL_law_1378 rfl rfl ?_
      refine x_iload 1381 rfl dL_law_1379 rfl ?_
      refine x_iconst 1382 rfl (v := 4) dL_law_1381 (by decide) ?_
      refine x_iadd 1383 rfl dL_law_1382 ?_
      obtain ⟨hz, h⟩ := x_ifn h
      refine z_sald Z dL_law_1383 hz 1384 rfl ?_
      refine x_aload_n 1385 rfl 0 dL_law_1384 rfl rfl ?_
      refine x_iload 1387 rfl dL_law_1385 rfl ?_
      refine x_iconst 1388 rfl (v := 5) dL_law_1387 (by decide) ?_
      refine x_iadd 1389 rfl dL_law_1388 ?_
      obtain ⟨hz, h⟩ := x_ifn h
      refine z_sald Z dL_law_1389 hz 1390 rfl ?_
      obtain ⟨⟨q131r, q131s⟩, q131h, h⟩ := x_bind h
      try dsimp only at h
      refine z_callV E [.int _, .int _, .int _, .int _, .int _] [] dL_law_1390 K_RL_193 ⟨Nat.le_of_ble_eq_true rfl, Nat.le_of_ble_eq_true rfl⟩ sh_60 (by decide) rfl (c_Mo_takes_60 E _ _ _ _ _ q131h) rfl rfl (Nat.le_of_ble_eq_true rfl) 1393 rfl [.int _] rfl ?_
      refine x_istore 1395 rfl dL_law_1393 (by decide) [some (.ref 1500), some (.ref 0), some (.ref 60), some (.ref 96), some (.int _), some (.int _), some (.int _)] rfl ?_
      refine x_aload_n 1396 rfl 2 dL_law_1395 rfl rfl ?_
      obtain ⟨⟨q133r, q133s⟩, q133h, h⟩ := x_bind h
      try dsimp only at h
      refine z_callV E [] [] dL_law_1396 K_RL_109 ⟨Nat.le_of_ble_eq_true rfl, Nat.le_of_ble_eq_true rfl⟩ sh_60 (by decide) rfl (c_Mo_thrown_60 E  q133h) rfl rfl (Nat.le_of_ble_eq_true rfl) 1399 rfl [.int _] rfl ?_
      refine x_iload 1401 rfl dL_law_1399 rfl ?_
      refine x_icmp_eq 1404 rfl 1406 dL_law_1401 (by decide) (fun hc => ?_) (fun hc => ?_)
      · replace h := x_ifT hc h
        refine x_iload 1408 rfl dL_law_1406 rfl ?_
        refine x_if_ne 1411 rfl 1423 dL_law_1408 (by decide) (fun hc => ?_) (fun hc => ?_)
        · replace h := x_ifF hc h
          refine x_goto 2205 dL_law_1423 (by decide) ?_
          refine x_iinc 2208 rfl (6) dL_law_2205 rfl (by decide) (by decide) [some (.ref 1500), some (.ref 0), some (.ref 60), some (.ref 96), some (.int _), some (.int _), some (.int _)] rfl ?_
          refine x_goto 23 dL_law_2208 (by decide) ?_
          cases h
          exact x_wk (x_le_s (x_le_s (x_le_s (x_le_s (x_le_s (x_le_n (x_le_n x_le_0))))))) (hG (_, _) rfl)
        · replace h := x_ifT hc h
          refine x_aload_n 1412 rfl 3 dL_law_1411 rfl rfl ?_
          refine x_iconst 1413 rfl (v := 0) dL_law_1412 (by decide) ?_
          refine x_lald E dL_law_1413 sh_96 0 (by decide) (by decide) 1414 rfl ?_
          refine x_iload 1416 rfl dL_law_1414 rfl ?_
          refine x_i2l 1417 rfl dL_law_1416 ?_
          refine x_lcmp 1418 rfl dL_law_1417 ?_
          refine x_if_eq 1421 rfl 1423 dL_law_1418 (by decide) (fun hc => ?_) (fun hc => ?_)
          · replace h := x_ifT hc h
            refine x_goto 2205 dL_law_1423 (by decide) ?_
            refine x_iinc 2208 rfl (6) dL_law_2205 rfl (by decide) (by decide) [some (.ref 1500), some (.ref 0), some (.ref 60), some (.ref 96), some (.int _), some (.int _), some (.int _)] rfl ?_
            refine x_goto 23 dL_law_2208 (by decide) ?_
            cases h
            exact x_wk (x_le_s (x_le_s (x_le_s (x_le_s (x_le_s (x_le_n (x_le_n x_le_0))))))) (hG (_, _) rfl)
          · replace h := x_ifF hc h
            refine x_iconst 1422 rfl (v := 0) dL_law_1421 (by decide) ?_
            cases h
      · replace h := x_ifF hc h
        refine x_iconst 1405 rfl (v := 0) dL_law_1404 (by decide) ?_
        cases h
    replace h := x_ifF hc24 h
    refine x_case (25) (fun hc25 => ?_) (fun hc25 => ?_)
    · replace h := x_ifT hc25 h
      refine x_tabIn (off := 1386) 1426 dL_law_40 (by rw [hc25]; decide) (by rw [hc25]; decide) (by rw [hc25]; rfl) (by decide) ?_
      refine x_aload_n 1427 rfl 1 dL_law_1426 rfl rfl ?_
      refine x_aload_n 1428 rfl 0 dL_law_1427 rfl rfl ?_
      refine x_iload 1430 rfl dL_law_1428 rfl ?_
      refine x_iconst 1431 rfl (v := 1) dL_law_1430 (by decide) ?_
      refine x_iadd 1432 rfl dL_law_1431 ?_
      obtain ⟨hz, h⟩ := x_ifn h
      refine z_sald Z dL_law_1432 hz 1433 rfl ?_
      refine x_aload_n 1434 rfl 0 dL_law_1433 rfl rfl ?_
      refine x_iload 1436 rfl dL_law_1434 rfl ?_
      refine x_iconst 1437 rfl (v := 2) dL_law_1436 (by decide) ?_
      refine x_iadd 1438 rfl dL_law_1437 ?_
      obtain ⟨hz, h⟩ := x_ifn h
      refine z_sald Z dL_law_1438 hz 1439 rfl ?_
      refine x_if_eq 1442 rfl 1446 dL_law_1439 (by decide) (fun hc => ?_) (fun hc => ?_)
      · replace h := x_ifT hc h
        refine x_iconst 1447 rfl (v := 0) dL_law_1446 (by decide) ?_
        refine x_aload_n 1448 rfl 3 dL_law_1447 rfl rfl ?_
        obtain ⟨⟨q136r, q136s⟩, q136h, h⟩ := x_bind h
        try dsimp only at h
        refine z_callHd (bc := bc) (bs := bs) E [.ref 0, .int _, .int _, .ref 96] [] dL_law_1448 KC_RL_194 ⟨(Nat.le_of_ble_eq_true rfl), (Nat.le_of_ble_eq_true rfl)⟩ rfl rfl (Nat.le_of_ble_eq_true rfl) rfl rfl (cw_see E _ _ q136h) 1451 rfl [.int _] rfl ?_
        refine x_istore 1453 rfl dL_law_1451 (by decide) [some (.ref 1500), some (.ref 0), some (.ref 60), some (.ref 96), some (.int _), some (.int _), none] rfl ?_
        refine x_aload_n 1454 rfl 2 dL_law_1453 rfl rfl ?_
        refine x_aload_n 1455 rfl 0 dL_law_1454 rfl rfl ?_
        refine x_iload 1457 rfl dL_law_1455 rfl ?_
        refine x_iconst 1458 rfl (v := 1) dL_law_1457 (by decide) ?_
        refine x_iadd 1459 rfl dL_law_1458 ?_
        obtain ⟨hz, h⟩ := x_ifn h
        refine z_sald Z dL_law_1459 hz 1460 rfl ?_
        refine x_aload_n 1461 rfl 0 dL_law_1460 rfl rfl ?_
        refine x_iload 1463 rfl dL_law_1461 rfl ?_
        refine x_iconst 1464 rfl (v := 2) dL_law_1463 (by decide) ?_
        refine x_iadd 1465 rfl dL_law_1464 ?_
        obtain ⟨hz, h⟩ := x_ifn h
        refine z_sald Z dL_law_1465 hz 1466 rfl ?_
        refine x_if_eq 1469 rfl 1473 dL_law_1466 (by decide) (fun hc => ?_) (fun hc => ?_)
        · replace h := x_ifT hc h
          refine x_iconst 1474 rfl (v := 0) dL_law_1473 (by decide) ?_
          obtain ⟨⟨q138r, q138s⟩, q138h, h⟩ := x_bind h
          try dsimp only at h
          refine z_callV E [.int _, .int _] [] dL_law_1474 K_RL_197 ⟨Nat.le_of_ble_eq_true rfl, Nat.le_of_ble_eq_true rfl⟩ sh_60 (by decide) rfl (c_Mo_see_60 E _ _ q138h) rfl rfl (Nat.le_of_ble_eq_true rfl) 1477 rfl [.int _] rfl ?_
          refine x_istore 1479 rfl dL_law_1477 (by decide) [some (.ref 1500), some (.ref 0), some (.ref 60), some (.ref 96), some (.int _), some (.int _), some (.int _)] rfl ?_
          refine x_aload_n 1480 rfl 2 dL_law_1479 rfl rfl ?_
          obtain ⟨⟨q140r, q140s⟩, q140h, h⟩ := x_bind h
          try dsimp only at h
          refine z_callV E [] [] dL_law_1480 K_RL_109 ⟨Nat.le_of_ble_eq_true rfl, Nat.le_of_ble_eq_true rfl⟩ sh_60 (by decide) rfl (c_Mo_thrown_60 E  q140h) rfl rfl (Nat.le_of_ble_eq_true rfl) 1483 rfl [.int _] rfl ?_
          refine x_iload 1485 rfl dL_law_1483 rfl ?_
          refine x_icmp_eq 1488 rfl 1490 dL_law_1485 (by decide) (fun hc => ?_) (fun hc => ?_)
          · replace h := x_ifT hc h
            refine x_iload 1492 rfl dL_law_1490 rfl ?_
            refine x_if_ne 1495 rfl 1507 dL_law_1492 (by decide) (fun hc => ?_) (fun hc => ?_)
            · replace h := x_ifF hc h
              refine x_goto 2205 dL_law_1507 (by decide) ?_
              refine x_iinc 2208 rfl (6) dL_law_2205 rfl (by decide) (by decide) [some (.ref 1500), some (.ref 0), some (.ref 60), some (.ref 96), some (.int _), some (.int _), some (.int _)] rfl ?_
              refine x_goto 23 dL_law_2208 (by decide) ?_
              cases h
              exact x_wk (x_le_s (x_le_s (x_le_s (x_le_s (x_le_s (x_le_n (x_le_n x_le_0))))))) (hG (_, _) rfl)
            · replace h := x_ifT hc h
              refine x_aload_n 1496 rfl 3 dL_law_1495 rfl rfl ?_
              refine x_iconst 1497 rfl (v := 0) dL_law_1496 (by decide) ?_
              refine x_lald E dL_law_1497 sh_96 0 (by decide) (by decide) 1498 rfl ?_
              refine x_iload 1500 rfl dL_law_1498 rfl ?_
              refine x_i2l 1501 rfl dL_law_1500 ?_
              refine x_lcmp 1502 rfl dL_law_1501 ?_
              refine x_if_eq 1505 rfl 1507 dL_law_1502 (by decide) (fun hc => ?_) (fun hc => ?_)
              · replace h := x_ifT hc h
                refine x_goto 2205 dL_law_1507 (by decide) ?_
                refine x_iinc 2208 rfl (6) dL_law_2205 rfl (by decide) (by decide) [some (.ref 1500), some (.ref 0), some (.ref 60), some (.ref 96), some (.int _), some (.int _), some (.int _)] rfl ?_
                refine x_goto 23 dL_law_2208 (by decide) ?_
                cases h
                exact x_wk (x_le_s (x_le_s (x_le_s (x_le_s (x_le_s (x_le_n (x_le_n x_le_0))))))) (hG (_, _) rfl)
              · replace h := x_ifF hc h
                refine x_iconst 1506 rfl (v := 0) dL_law_1505 (by decide) ?_
                cases h
          · replace h := x_ifF hc h
            refine x_iconst 1489 rfl (v := 0) dL_law_1488 (by decide) ?_
            cases h
        · replace h := x_ifF hc h
          refine x_iconst 1470 rfl (v := 1) dL_law_1469 (by decide) ?_
          refine x_goto 1474 dL_law_1470 (by decide) ?_
          obtain ⟨⟨q143r, q143s⟩, q143h, h⟩ := x_bind h
          try dsimp only at h
          refine z_callV E [.int _, .int _] [] dL_law_1474 K_RL_197 ⟨Nat.le_of_ble_eq_true rfl, Nat.le_of_ble_eq_true rfl⟩ sh_60 (by decide) rfl (c_Mo_see_60 E _ _ q143h) rfl rfl (Nat.le_of_ble_eq_true rfl) 1477 rfl [.int _] rfl ?_
          refine x_istore 1479 rfl dL_law_1477 (by decide) [some (.ref 1500), some (.ref 0), some (.ref 60), some (.ref 96), some (.int _), some (.int _), some (.int _)] rfl ?_
          refine x_aload_n 1480 rfl 2 dL_law_1479 rfl rfl ?_
          obtain ⟨⟨q145r, q145s⟩, q145h, h⟩ := x_bind h
          try dsimp only at h
          refine z_callV E [] [] dL_law_1480 K_RL_109 ⟨Nat.le_of_ble_eq_true rfl, Nat.le_of_ble_eq_true rfl⟩ sh_60 (by decide) rfl (c_Mo_thrown_60 E  q145h) rfl rfl (Nat.le_of_ble_eq_true rfl) 1483 rfl [.int _] rfl ?_
          refine x_iload 1485 rfl dL_law_1483 rfl ?_
          refine x_icmp_eq 1488 rfl 1490 dL_law_1485 (by decide) (fun hc => ?_) (fun hc => ?_)
          · replace h := x_ifT hc h
            refine x_iload 1492 rfl dL_law_1490 rfl ?_
            refine x_if_ne 1495 rfl 1507 dL_law_1492 (by decide) (fun hc => ?_) (fun hc => ?_)
            · replace h := x_ifF hc h
              refine x_goto 2205 dL_law_1507 (by decide) ?_
              refine x_iinc 2208 rfl (6) dL_law_2205 rfl (by decide) (by decide) [some (.ref 1500), some (.ref 0), some (.ref 60), some (.ref 96), some (.int _), some (.int _), some (.int _)] rfl ?_
              refine x_goto 23 dL_law_2208 (by decide) ?_
              cases h
              exact x_wk (x_le_s (x_le_s (x_le_s (x_le_s (x_le_s (x_le_n (x_le_n x_le_0))))))) (hG (_, _) rfl)
            · replace h := x_ifT hc h
              refine x_aload_n 1496 rfl 3 dL_law_1495 rfl rfl ?_
              refine x_iconst 1497 rfl (v := 0) dL_law_1496 (by decide) ?_
              refine x_lald E dL_law_1497 sh_96 0 (by decide) (by decide) 1498 rfl ?_
              refine x_iload 1500 rfl dL_law_1498 rfl ?_
              refine x_i2l 1501 rfl dL_law_1500 ?_
              refine x_lcmp 1502 rfl dL_law_1501 ?_
              refine x_if_eq 1505 rfl 1507 dL_law_1502 (by decide) (fun hc => ?_) (fun hc => ?_)
              · replace h := x_ifT hc h
                refine x_goto 2205 dL_law_1507 (by decide) ?_
                refine x_iinc 2208 rfl (6) dL_law_2205 rfl (by decide) (by decide) [some (.ref 1500), some (.ref 0), some (.ref 60), some (.ref 96), some (.int _), some (.int _), some (.int _)] rfl ?_
                refine x_goto 23 dL_law_2208 (by decide) ?_
                cases h
                exact x_wk (x_le_s (x_le_s (x_le_s (x_le_s (x_le_s (x_le_n (x_le_n x_le_0))))))) (hG (_, _) rfl)
              · replace h := x_ifF hc h
                refine x_iconst 1506 rfl (v := 0) dL_law_1505 (by decide) ?_
                cases h
          · replace h := x_ifF hc h
            refine x_iconst 1489 rfl (v := 0) dL_law_1488 (by decide) ?_
            cases h
      · replace h := x_ifF hc h
        refine x_iconst 1443 rfl (v := 1) dL_law_1442 (by decide) ?_
        refine x_goto 1447 dL_law_1443 (by decide) ?_
        refine x_aload_n 1448 rfl 3 dL_law_1447 rfl rfl ?_
        obtain ⟨⟨q148r, q148s⟩, q148h, h⟩ := x_bind h
        try dsimp only at h
        refine z_callHd (bc := bc) (bs := bs) E [.ref 0, .int _, .int _, .ref 96] [] dL_law_1448 KC_RL_194 ⟨(Nat.le_of_ble_eq_true rfl), (Nat.le_of_ble_eq_true rfl)⟩ rfl rfl (Nat.le_of_ble_eq_true rfl) rfl rfl (cw_see E _ _ q148h) 1451 rfl [.int _] rfl ?_
        refine x_istore 1453 rfl dL_law_1451 (by decide) [some (.ref 1500), some (.ref 0), some (.ref 60), some (.ref 96), some (.int _), some (.int _), none] rfl ?_
        refine x_aload_n 1454 rfl 2 dL_law_1453 rfl rfl ?_
        refine x_aload_n 1455 rfl 0 dL_law_1454 rfl rfl ?_
        refine x_iload 1457 rfl dL_law_1455 rfl ?_
        refine x_iconst 1458 rfl (v := 1) dL_law_1457 (by decide) ?_
        refine x_iadd 1459 rfl dL_law_1458 ?_
        obtain ⟨hz, h⟩ := x_ifn h
        refine z_sald Z dL_law_1459 hz 1460 rfl ?_
        refine x_aload_n 1461 rfl 0 dL_law_1460 rfl rfl ?_
        refine x_iload 1463 rfl dL_law_1461 rfl ?_
        refine x_iconst 1464 rfl (v := 2) dL_law_1463 (by decide) ?_
        refine x_iadd 1465 rfl dL_law_1464 ?_
        obtain ⟨hz, h⟩ := x_ifn h
        refine z_sald Z dL_law_1465 hz 1466 rfl ?_
        refine x_if_eq 1469 rfl 1473 dL_law_1466 (by decide) (fun hc => ?_) (fun hc => ?_)
        · replace h := x_ifT hc h
          refine x_iconst 1474 rfl (v := 0) dL_law_1473 (by decide) ?_
          obtain ⟨⟨q150r, q150s⟩, q150h, h⟩ := x_bind h
          try dsimp only at h
          refine z_callV E [.int _, .int _] [] dL_law_1474 K_RL_197 ⟨Nat.le_of_ble_eq_true rfl, Nat.le_of_ble_eq_true rfl⟩ sh_60 (by decide) rfl (c_Mo_see_60 E _ _ q150h) rfl rfl (Nat.le_of_ble_eq_true rfl) 1477 rfl [.int _] rfl ?_
          refine x_istore 1479 rfl dL_law_1477 (by decide) [some (.ref 1500), some (.ref 0), some (.ref 60), some (.ref 96), some (.int _), some (.int _), some (.int _)] rfl ?_
          refine x_aload_n 1480 rfl 2 dL_law_1479 rfl rfl ?_
          obtain ⟨⟨q152r, q152s⟩, q152h, h⟩ := x_bind h
          try dsimp only at h
          refine z_callV E [] [] dL_law_1480 K_RL_109 ⟨Nat.le_of_ble_eq_true rfl, Nat.le_of_ble_eq_true rfl⟩ sh_60 (by decide) rfl (c_Mo_thrown_60 E  q152h) rfl rfl (Nat.le_of_ble_eq_true rfl) 1483 rfl [.int _] rfl ?_
          refine x_iload 1485 rfl dL_law_1483 rfl ?_
          refine x_icmp_eq 1488 rfl 1490 dL_law_1485 (by decide) (fun hc => ?_) (fun hc => ?_)
          · replace h := x_ifT hc h
            refine x_iload 1492 rfl dL_law_1490 rfl ?_
            refine x_if_ne 1495 rfl 1507 dL_law_1492 (by decide) (fun hc => ?_) (fun hc => ?_)
            · replace h := x_ifF hc h
              refine x_goto 2205 dL_law_1507 (by decide) ?_
              refine x_iinc 2208 rfl (6) dL_law_2205 rfl (by decide) (by decide) [some (.ref 1500), some (.ref 0), some (.ref 60), some (.ref 96), some (.int _), some (.int _), some (.int _)] rfl ?_
              refine x_goto 23 dL_law_2208 (by decide) ?_
              cases h
              exact x_wk (x_le_s (x_le_s (x_le_s (x_le_s (x_le_s (x_le_n (x_le_n x_le_0))))))) (hG (_, _) rfl)
            · replace h := x_ifT hc h
              refine x_aload_n 1496 rfl 3 dL_law_1495 rfl rfl ?_
              refine x_iconst 1497 rfl (v := 0) dL_law_1496 (by decide) ?_
              refine x_lald E dL_law_1497 sh_96 0 (by decide) (by decide) 1498 rfl ?_
              refine x_iload 1500 rfl dL_law_1498 rfl ?_
              refine x_i2l 1501 rfl dL_law_1500 ?_
              refine x_lcmp 1502 rfl dL_law_1501 ?_
              refine x_if_eq 1505 rfl 1507 dL_law_1502 (by decide) (fun hc => ?_) (fun hc => ?_)
              · replace h := x_ifT hc h
                refine x_goto 2205 dL_law_1507 (by decide) ?_
                refine x_iinc 2208 rfl (6) dL_law_2205 rfl (by decide) (by decide) [some (.ref 1500), some (.ref 0), some (.ref 60), some (.ref 96), some (.int _), some (.int _), some (.int _)] rfl ?_
                refine x_goto 23 dL_law_2208 (by decide) ?_
                cases h
                exact x_wk (x_le_s (x_le_s (x_le_s (x_le_s (x_le_s (x_le_n (x_le_n x_le_0))))))) (hG (_, _) rfl)
              · replace h := x_ifF hc h
                refine x_iconst 1506 rfl (v := 0) dL_law_1505 (by decide) ?_
                cases h
          · replace h := x_ifF hc h
            refine x_iconst 1489 rfl (v := 0) dL_law_1488 (by decide) ?_
            cases h
        · replace h := x_ifF hc h
          refine x_iconst 1470 rfl (v := 1) dL_law_1469 (by decide) ?_
          refine x_goto 1474 dL_law_1470 (by decide) ?_
          obtain ⟨⟨q155r, q155s⟩, q155h, h⟩ := x_bind h
          try dsimp only at h
          refine z_callV E [.int _, .int _] [] dL_law_1474 K_RL_197 ⟨Nat.le_of_ble_eq_true rfl, Nat.le_of_ble_eq_true rfl⟩ sh_60 (by decide) rfl (c_Mo_see_60 E _ _ q155h) rfl rfl (Nat.le_of_ble_eq_true rfl) 1477 rfl [.int _] rfl ?_
          refine x_istore 1479 rfl dL_law_1477 (by decide) [some (.ref 1500), some (.ref 0), some (.ref 60), some (.ref 96), some (.int _), some (.int _), some (.int _)] rfl ?_
          refine x_aload_n 1480 rfl 2 dL_law_1479 rfl rfl ?_
          obtain ⟨⟨q157r, q157s⟩, q157h, h⟩ := x_bind h
          try dsimp only at h
          refine z_callV E [] [] dL_law_1480 K_RL_109 ⟨Nat.le_of_ble_eq_true rfl, Nat.le_of_ble_eq_true rfl⟩ sh_60 (by decide) rfl (c_Mo_thrown_60 E  q157h) rfl rfl (Nat.le_of_ble_eq_true rfl) 1483 rfl [.int _] rfl ?_
          refine x_iload 1485 rfl dL_law_1483 rfl ?_
          refine x_icmp_eq 1488 rfl 1490 dL_law_1485 (by decide) (fun hc => ?_) (fun hc => ?_)
          · replace h := x_ifT hc h
            refine x_iload 1492 rfl dL_law_1490 rfl ?_
            refine x_if_ne 1495 rfl 1507 dL_law_1492 (by decide) (fun hc => ?_) (fun hc => ?_)
            · replace h := x_ifF hc h
              refine x_goto 2205 dL_law_1507 (by decide) ?_
              refine x_iinc 2208 rfl (6) dL_law_2205 rfl (by decide) (by decide) [some (.ref 1500), some (.ref 0), some (.ref 60), some (.ref 96), some (.int _), some (.int _), some (.int _)] rfl ?_
              refine x_goto 23 dL_law_2208 (by decide) ?_
              cases h
              exact x_wk (x_le_s (x_le_s (x_le_s (x_le_s (x_le_s (x_le_n (x_le_n x_le_0))))))) (hG (_, _) rfl)
            · replace h := x_ifT hc h
              refine x_aload_n 1496 rfl 3 dL_law_1495 rfl rfl ?_
              refine x_iconst 1497 rfl (v := 0) dL_law_1496 (by decide) ?_
              refine x_lald E dL_law_1497 sh_96 0 (by decide) (by decide) 1498 rfl ?_
              refine x_iload 1500 rfl dL_law_1498 rfl ?_
              refine x_i2l 1501 rfl dL_law_1500 ?_
              refine x_lcmp 1502 rfl dL_law_1501 ?_
              refine x_if_eq 1505 rfl 1507 dL_law_1502 (by decide) (fun hc => ?_) (fun hc => ?_)
              · replace h := x_ifT hc h
                refine x_goto 2205 dL_law_1507 (by decide) ?_
                refine x_iinc 2208 rfl (6) dL_law_2205 rfl (by decide) (by decide) [some (.ref 1500), some (.ref 0), some (.ref 60), some (.ref 96), some (.int _), some (.int _), some (.int _)] rfl ?_
                refine x_goto 23 dL_law_2208 (by decide) ?_
                cases h
                exact x_wk (x_le_s (x_le_s (x_le_s (x_le_s (x_le_s (x_le_n (x_le_n x_le_0))))))) (hG (_, _) rfl)
              · replace h := x_ifF hc h
                refine x_iconst 1506 rfl (v := 0) dL_law_1505 (by decide) ?_
                cases h
          · replace h := x_ifF hc h
            refine x_iconst 1489 rfl (v := 0) dL_law_1488 (by decide) ?_
            cases h
    replace h := x_ifF hc25 h
    refine x_case (26) (fun hc26 => ?_) (fun hc26 => ?_)
    · replace h := x_ifT hc26 h
      refine x_tabIn (off := 1470) 1510 dL_law_40 (by rw [hc26]; decide) (by rw [hc26]; decide) (by rw [hc26]; rfl) (by decide) ?_
      refine x_aload_n 1511 rfl 1 dL_law_1510 rfl rfl ?_
      refine x_aload_n 1512 rfl 0 dL_law_1511 rfl rfl ?_
      refine x_iload 1514 rfl dL_law_1512 rfl ?_
      refine x_iconst 1515 rfl (v := 1) dL_law_1514 (by decide) ?_
      refine x_iadd 1516 rfl dL_law_1515 ?_
      obtain ⟨hz, h⟩ := x_ifn h
      refine z_sald Z dL_law_1516 hz 1517 rfl ?_
      refine x_aload_n 1518 rfl 3 dL_law_1517 rfl rfl ?_
      obtain ⟨⟨q160r, q160s⟩, q160h, h⟩ := x_bind h
      try dsimp only at h
      refine z_callHd (bc := bc) (bs := bs) E [.ref 0, .int _, .ref 96] [] dL_law_1518 KC_RL_198 ⟨(Nat.le_of_ble_eq_true rfl), (Nat.le_of_ble_eq_true rfl)⟩ rfl rfl (Nat.le_of_ble_eq_true rfl) rfl rfl (cw_fits E _ q160h) 1521 rfl [.int _] rfl ?_
      refine x_istore 1523 rfl dL_law_1521 (by decide) [some (.ref 1500), some (.ref 0), some (.ref 60), some (.ref 96), some (.int _), some (.int _), none] rfl ?_
      refine x_aload_n 1524 rfl 2 dL_law_1523 rfl rfl ?_
      refine x_aload_n 1525 rfl 0 dL_law_1524 rfl rfl ?_
      refine x_iload 1527 rfl dL_law_1525 rfl ?_
      refine x_iconst 1528 rfl (v := 1) dL_law_1527 (by decide) ?_
      refine x_iadd 1529 rfl dL_law_1528 ?_
      obtain ⟨hz, h⟩ := x_ifn h
      refine z_sald Z dL_law_1529 hz 1530 rfl ?_
      obtain ⟨⟨q162r, q162s⟩, q162h, h⟩ := x_bind h
      try dsimp only at h
      refine z_callV E [.int _] [] dL_law_1530 K_RL_200 ⟨Nat.le_of_ble_eq_true rfl, Nat.le_of_ble_eq_true rfl⟩ sh_60 (by decide) rfl (c_Mo_fits_60 E _ q162h) rfl rfl (Nat.le_of_ble_eq_true rfl) 1533 rfl [.int _] rfl ?_
      refine x_istore 1535 rfl dL_law_1533 (by decide) [some (.ref 1500), some (.ref 0), some (.ref 60), some (.ref 96), some (.int _), some (.int _), some (.int _)] rfl ?_
      refine x_aload_n 1536 rfl 2 dL_law_1535 rfl rfl ?_
      obtain ⟨⟨q164r, q164s⟩, q164h, h⟩ := x_bind h
      try dsimp only at h
      refine z_callV E [] [] dL_law_1536 K_RL_109 ⟨Nat.le_of_ble_eq_true rfl, Nat.le_of_ble_eq_true rfl⟩ sh_60 (by decide) rfl (c_Mo_thrown_60 E  q164h) rfl rfl (Nat.le_of_ble_eq_true rfl) 1539 rfl [.int _] rfl ?_
      refine x_iload 1541 rfl dL_law_1539 rfl ?_
      refine x_icmp_eq 1544 rfl 1546 dL_law_1541 (by decide) (fun hc => ?_) (fun hc => ?_)
      · replace h := x_ifT hc h
        refine x_iload 1548 rfl dL_law_1546 rfl ?_
        refine x_if_ne 1551 rfl 1563 dL_law_1548 (by decide) (fun hc => ?_) (fun hc => ?_)
        · replace h := x_ifF hc h
          refine x_goto 2205 dL_law_1563 (by decide) ?_
          refine x_iinc 2208 rfl (6) dL_law_2205 rfl (by decide) (by decide) [some (.ref 1500), some (.ref 0), some (.ref 60), some (.ref 96), some (.int _), some (.int _), some (.int _)] rfl ?_
          refine x_goto 23 dL_law_2208 (by decide) ?_
          cases h
          exact x_wk (x_le_s (x_le_s (x_le_s (x_le_s (x_le_s (x_le_n (x_le_n x_le_0))))))) (hG (_, _) rfl)
        · replace h := x_ifT hc h
          refine x_aload_n 1552 rfl 3 dL_law_1551 rfl rfl ?_
          refine x_iconst 1553 rfl (v := 0) dL_law_1552 (by decide) ?_
          refine x_lald E dL_law_1553 sh_96 0 (by decide) (by decide) 1554 rfl ?_
          refine x_iload 1556 rfl dL_law_1554 rfl ?_
          refine x_i2l 1557 rfl dL_law_1556 ?_
          refine x_lcmp 1558 rfl dL_law_1557 ?_
          refine x_if_eq 1561 rfl 1563 dL_law_1558 (by decide) (fun hc => ?_) (fun hc => ?_)
          · replace h := x_ifT hc h
            refine x_goto 2205 dL_law_1563 (by decide) ?_
            refine x_iinc 2208 rfl (6) dL_law_2205 rfl (by decide) (by decide) [some (.ref 1500), some (.ref 0), some (.ref 60), some (.ref 96), some (.int _), some (.int _), some (.int _)] rfl ?_
            refine x_goto 23 dL_law_2208 (by decide) ?_
            cases h
            exact x_wk (x_le_s (x_le_s (x_le_s (x_le_s (x_le_s (x_le_n (x_le_n x_le_0))))))) (hG (_, _) rfl)
          · replace h := x_ifF hc h
            refine x_iconst 1562 rfl (v := 0) dL_law_1561 (by decide) ?_
            cases h
      · replace h := x_ifF hc h
        refine x_iconst 1545 rfl (v := 0) dL_law_1544 (by decide) ?_
        cases h
    replace h := x_ifF hc26 h
    refine x_case (27) (fun hc27 => ?_) (fun hc27 => ?_)
    · replace h := x_ifT hc27 h
      refine x_tabIn (off := 1526) 1566 dL_law_40 (by rw [hc27]; decide) (by rw [hc27]; decide) (by rw [hc27]; rfl) (by decide) ?_
      refine x_aload_n 1567 rfl 1 dL_law_1566 rfl rfl ?_
      refine x_aload_n 1568 rfl 0 dL_law_1567 rfl rfl ?_
      refine x_iload 1570 rfl dL_law_1568 rfl ?_
      refine x_iconst 1571 rfl (v := 1) dL_law_1570 (by decide) ?_
      refine x_iadd 1572 rfl dL_law_1571 ?_
      obtain ⟨hz, h⟩ := x_ifn h
      refine z_sald Z dL_law_1572 hz 1573 rfl ?_
      obtain ⟨⟨q167r, q167s⟩, q167h, h⟩ := x_bind h
      try dsimp only at h
      refine z_callV E [.int _] [] dL_law_1573 K_RL_201 ⟨Nat.le_of_ble_eq_true rfl, Nat.le_of_ble_eq_true rfl⟩ sh_0 (by decide) rfl (c_RH_book_0 E _ q167h) rfl rfl (Nat.le_of_ble_eq_true rfl) 1576 rfl [.int _] rfl ?_
      refine x_aload_n 1577 rfl 2 dL_law_1576 rfl rfl ?_
      refine x_aload_n 1578 rfl 0 dL_law_1577 rfl rfl ?_
      refine x_iload 1580 rfl dL_law_1578 rfl ?_
      refine x_iconst 1581 rfl (v := 1) dL_law_1580 (by decide) ?_
      refine x_iadd 1582 rfl dL_law_1581 ?_
      obtain ⟨hz, h⟩ := x_ifn h
      refine z_sald Z dL_law_1582 hz 1583 rfl ?_
      obtain ⟨⟨q168r, q168s⟩, q168h, h⟩ := x_bind h
      try dsimp only at h
      refine z_callV E [.int _] [.int _] dL_law_1583 K_RL_204 ⟨Nat.le_of_ble_eq_true rfl, Nat.le_of_ble_eq_true rfl⟩ sh_60 (by decide) rfl (c_Mo_book_60 E _ q168h) rfl rfl (Nat.le_of_ble_eq_true rfl) 1586 rfl [.int _, .int _] rfl ?_
      refine x_icmp_eq 1589 rfl 2205 dL_law_1586 (by decide) (fun hc => ?_) (fun hc => ?_)
      · replace h := x_ifT hc h
        refine x_iinc 2208 rfl (6) dL_law_2205 rfl (by decide) (by decide) [some (.ref 1500), some (.ref 0), some (.ref 60), some (.ref 96), some (.int _), none, none] rfl ?_
        refine x_goto 23 dL_law_2208 (by decide) ?_
        cases h
        exact x_wk (x_le_s (x_le_s (x_le_s (x_le_s (x_le_s (x_le_n (x_le_n x_le_0))))))) (x_less (Nat.le_succ _) (Nat.le_add_right _ _) (hG (_, _) rfl))
      · replace h := x_ifF hc h
        refine x_iconst 1590 rfl (v := 0) dL_law_1589 (by decide) ?_
        cases h
    replace h := x_ifF hc27 h
    refine x_case (28) (fun hc28 => ?_) (fun hc28 => ?_)
    · replace h := x_ifT hc28 h
      refine x_tabIn (off := 1551) 1591 dL_law_40 (by rw [hc28]; decide) (by rw [hc28]; decide) (by rw [hc28]; rfl) (by decide) ?_
      refine x_aload_n 1592 rfl 1 dL_law_1591 rfl rfl ?_
      refine x_aload_n 1593 rfl 0 dL_law_1592 rfl rfl ?_
      refine x_iload 1595 rfl dL_law_1593 rfl ?_
      refine x_iconst 1596 rfl (v := 1) dL_law_1595 (by decide) ?_
      refine x_iadd 1597 rfl dL_law_1596 ?_
      obtain ⟨hz, h⟩ := x_ifn h
      refine z_sald Z dL_law_1597 hz 1598 rfl ?_
      refine x_aload_n 1599 rfl 0 dL_law_1598 rfl rfl ?_
      refine x_iload 1601 rfl dL_law_1599 rfl ?_
      refine x_iconst 1602 rfl (v := 2) dL_law_1601 (by decide) ?_
      refine x_iadd 1603 rfl dL_law_1602 ?_
      obtain ⟨hz, h⟩ := x_ifn h
      refine z_sald Z dL_law_1603 hz 1604 rfl ?_
      refine x_aload_n 1605 rfl 3 dL_law_1604 rfl rfl ?_
      obtain ⟨⟨q170r, q170s⟩, q170h, h⟩ := x_bind h
      try dsimp only at h
      refine z_callHd (bc := bc) (bs := bs) E [.ref 0, .int _, .int _, .ref 96] [] dL_law_1605 KC_RL_205 ⟨(Nat.le_of_ble_eq_true rfl), (Nat.le_of_ble_eq_true rfl)⟩ rfl rfl (Nat.le_of_ble_eq_true rfl) rfl rfl (cw_next E _ _ q170h) 1608 rfl [.int _] rfl ?_
      refine x_istore 1610 rfl dL_law_1608 (by decide) [some (.ref 1500), some (.ref 0), some (.ref 60), some (.ref 96), some (.int _), some (.int _), none] rfl ?_
      refine x_aload_n 1611 rfl 2 dL_law_1610 rfl rfl ?_
      refine x_aload_n 1612 rfl 0 dL_law_1611 rfl rfl ?_
      refine x_iload 1614 rfl dL_law_1612 rfl ?_
      refine x_iconst 1615 rfl (v := 1) dL_law_1614 (by decide) ?_
      refine x_iadd 1616 rfl dL_law_1615 ?_
      obtain ⟨hz, h⟩ := x_ifn h
      refine z_sald Z dL_law_1616 hz 1617 rfl ?_
      refine x_aload_n 1618 rfl 0 dL_law_1617 rfl rfl ?_
      refine x_iload 1620 rfl dL_law_1618 rfl ?_
      refine x_iconst 1621 rfl (v := 2) dL_law_1620 (by decide) ?_
      refine x_iadd 1622 rfl dL_law_1621 ?_
      obtain ⟨hz, h⟩ := x_ifn h
      refine z_sald Z dL_law_1622 hz 1623 rfl ?_
      obtain ⟨⟨q172r, q172s⟩, q172h, h⟩ := x_bind h
      try dsimp only at h
      refine z_callV E [.int _, .int _] [] dL_law_1623 K_RL_207 ⟨Nat.le_of_ble_eq_true rfl, Nat.le_of_ble_eq_true rfl⟩ sh_60 (by decide) rfl (c_Mo_next_60 E _ _ q172h) rfl rfl (Nat.le_of_ble_eq_true rfl) 1626 rfl [.int _] rfl ?_
      refine x_istore 1628 rfl dL_law_1626 (by decide) [some (.ref 1500), some (.ref 0), some (.ref 60), some (.ref 96), some (.int _), some (.int _), some (.int _)] rfl ?_
      refine x_aload_n 1629 rfl 2 dL_law_1628 rfl rfl ?_
      obtain ⟨⟨q174r, q174s⟩, q174h, h⟩ := x_bind h
      try dsimp only at h
      refine z_callV E [] [] dL_law_1629 K_RL_109 ⟨Nat.le_of_ble_eq_true rfl, Nat.le_of_ble_eq_true rfl⟩ sh_60 (by decide) rfl (c_Mo_thrown_60 E  q174h) rfl rfl (Nat.le_of_ble_eq_true rfl) 1632 rfl [.int _] rfl ?_
      refine x_iload 1634 rfl dL_law_1632 rfl ?_
      refine x_icmp_eq 1637 rfl 1639 dL_law_1634 (by decide) (fun hc => ?_) (fun hc => ?_)
      · replace h := x_ifT hc h
        refine x_iload 1641 rfl dL_law_1639 rfl ?_
        refine x_if_ne 1644 rfl 1656 dL_law_1641 (by decide) (fun hc => ?_) (fun hc => ?_)
        · replace h := x_ifF hc h
          refine x_goto 2205 dL_law_1656 (by decide) ?_
          refine x_iinc 2208 rfl (6) dL_law_2205 rfl (by decide) (by decide) [some (.ref 1500), some (.ref 0), some (.ref 60), some (.ref 96), some (.int _), some (.int _), some (.int _)] rfl ?_
          refine x_goto 23 dL_law_2208 (by decide) ?_
          cases h
          exact x_wk (x_le_s (x_le_s (x_le_s (x_le_s (x_le_s (x_le_n (x_le_n x_le_0))))))) (hG (_, _) rfl)
        · replace h := x_ifT hc h
          refine x_aload_n 1645 rfl 3 dL_law_1644 rfl rfl ?_
          refine x_iconst 1646 rfl (v := 0) dL_law_1645 (by decide) ?_
          refine x_lald E dL_law_1646 sh_96 0 (by decide) (by decide) 1647 rfl ?_
          refine x_iload 1649 rfl dL_law_1647 rfl ?_
          refine x_i2l 1650 rfl dL_law_1649 ?_
          refine x_lcmp 1651 rfl dL_law_1650 ?_
          refine x_if_eq 1654 rfl 1656 dL_law_1651 (by decide) (fun hc => ?_) (fun hc => ?_)
          · replace h := x_ifT hc h
            refine x_goto 2205 dL_law_1656 (by decide) ?_
            refine x_iinc 2208 rfl (6) dL_law_2205 rfl (by decide) (by decide) [some (.ref 1500), some (.ref 0), some (.ref 60), some (.ref 96), some (.int _), some (.int _), some (.int _)] rfl ?_
            refine x_goto 23 dL_law_2208 (by decide) ?_
            cases h
            exact x_wk (x_le_s (x_le_s (x_le_s (x_le_s (x_le_s (x_le_n (x_le_n x_le_0))))))) (hG (_, _) rfl)
          · replace h := x_ifF hc h
            refine x_iconst 1655 rfl (v := 0) dL_law_1654 (by decide) ?_
            cases h
      · replace h := x_ifF hc h
        refine x_iconst 1638 rfl (v := 0) dL_law_1637 (by decide) ?_
        cases h
    replace h := x_ifF hc28 h
    refine x_case (29) (fun hc29 => ?_) (fun hc29 => ?_)
    · replace h := x_ifT hc29 h
      refine x_tabIn (off := 1619) 1659 dL_law_40 (by rw [hc29]; decide) (by rw [hc29]; decide) (by rw [hc29]; rfl) (by decide) ?_
      refine x_aload_n 1660 rfl 1 dL_law_1659 rfl rfl ?_
      refine x_aload_n 1661 rfl 0 dL_law_1660 rfl rfl ?_
      refine x_iload 1663 rfl dL_law_1661 rfl ?_
      refine x_iconst 1664 rfl (v := 1) dL_law_1663 (by decide) ?_
      refine x_iadd 1665 rfl dL_law_1664 ?_
      obtain ⟨hz, h⟩ := x_ifn h
      refine z_sald Z dL_law_1665 hz 1666 rfl ?_
      refine x_aload_n 1667 rfl 3 dL_law_1666 rfl rfl ?_
      obtain ⟨⟨q177r, q177s⟩, q177h, h⟩ := x_bind h
      try dsimp only at h
      refine z_callHd (bc := bc) (bs := bs) E [.ref 0, .int _, .ref 96] [] dL_law_1667 KC_RL_208 ⟨(Nat.le_of_ble_eq_true rfl), (Nat.le_of_ble_eq_true rfl)⟩ rfl rfl (Nat.le_of_ble_eq_true rfl) rfl rfl (cw_middle E _ q177h) 1670 rfl [.int _] rfl ?_
      refine x_istore 1672 rfl dL_law_1670 (by decide) [some (.ref 1500), some (.ref 0), some (.ref 60), some (.ref 96), some (.int _), some (.int _), none] rfl ?_
      refine x_aload_n 1673 rfl 2 dL_law_1672 rfl rfl ?_
      refine x_aload_n 1674 rfl 0 dL_law_1673 rfl rfl ?_
      refine x_iload 1676 rfl dL_law_1674 rfl ?_
      refine x_iconst 1677 rfl (v := 1) dL_law_1676 (by decide) ?_
      refine x_iadd 1678 rfl dL_law_1677 ?_
      obtain ⟨hz, h⟩ := x_ifn h
      refine z_sald Z dL_law_1678 hz 1679 rfl ?_
      obtain ⟨⟨q179r, q179s⟩, q179h, h⟩ := x_bind h
      try dsimp only at h
      refine z_callV E [.int _] [] dL_law_1679 K_RL_210 ⟨Nat.le_of_ble_eq_true rfl, Nat.le_of_ble_eq_true rfl⟩ sh_60 (by decide) rfl (c_Mo_middle_60 E _ q179h) rfl rfl (Nat.le_of_ble_eq_true rfl) 1682 rfl [.int _] rfl ?_
      refine x_istore 1684 rfl dL_law_1682 (by decide) [some (.ref 1500), some (.ref 0), some (.ref 60), some (.ref 96), some (.int _), some (.int _), some (.int _)] rfl ?_
      refine x_aload_n 1685 rfl 2 dL_law_1684 rfl rfl ?_
      obtain ⟨⟨q181r, q181s⟩, q181h, h⟩ := x_bind h
      try dsimp only at h
      refine z_callV E [] [] dL_law_1685 K_RL_109 ⟨Nat.le_of_ble_eq_true rfl, Nat.le_of_ble_eq_true rfl⟩ sh_60 (by decide) rfl (c_Mo_thrown_60 E  q181h) rfl rfl (Nat.le_of_ble_eq_true rfl) 1688 rfl [.int _] rfl ?_
      refine x_iload 1690 rfl dL_law_1688 rfl ?_
      refine x_icmp_eq 1693 rfl 1695 dL_law_1690 (by decide) (fun hc => ?_) (fun hc => ?_)
      · replace h := x_ifT hc h
        refine x_iload 1697 rfl dL_law_1695 rfl ?_
        refine x_if_ne 1700 rfl 1712 dL_law_1697 (by decide) (fun hc => ?_) (fun hc => ?_)
        · replace h := x_ifF hc h
          refine x_goto 2205 dL_law_1712 (by decide) ?_
          refine x_iinc 2208 rfl (6) dL_law_2205 rfl (by decide) (by decide) [some (.ref 1500), some (.ref 0), some (.ref 60), some (.ref 96), some (.int _), some (.int _), some (.int _)] rfl ?_
          refine x_goto 23 dL_law_2208 (by decide) ?_
          cases h
          exact x_wk (x_le_s (x_le_s (x_le_s (x_le_s (x_le_s (x_le_n (x_le_n x_le_0))))))) (hG (_, _) rfl)
        · replace h := x_ifT hc h
          refine x_aload_n 1701 rfl 3 dL_law_1700 rfl rfl ?_
          refine x_iconst 1702 rfl (v := 0) dL_law_1701 (by decide) ?_
          refine x_lald E dL_law_1702 sh_96 0 (by decide) (by decide) 1703 rfl ?_
          refine x_iload 1705 rfl dL_law_1703 rfl ?_
          refine x_i2l 1706 rfl dL_law_1705 ?_
          refine x_lcmp 1707 rfl dL_law_1706 ?_
          refine x_if_eq 1710 rfl 1712 dL_law_1707 (by decide) (fun hc => ?_) (fun hc => ?_)
          · replace h := x_ifT hc h
            refine x_goto 2205 dL_law_1712 (by decide) ?_
            refine x_iinc 2208 rfl (6) dL_law_2205 rfl (by decide) (by decide) [some (.ref 1500), some (.ref 0), some (.ref 60), some (.ref 96), some (.int _), some (.int _), some (.int _)] rfl ?_
            refine x_goto 23 dL_law_2208 (by decide) ?_
            cases h
            exact x_wk (x_le_s (x_le_s (x_le_s (x_le_s (x_le_s (x_le_n (x_le_n x_le_0))))))) (hG (_, _) rfl)
          · replace h := x_ifF hc h
            refine x_iconst 1711 rfl (v := 0) dL_law_1710 (by decide) ?_
            cases h
      · replace h := x_ifF hc h
        refine x_iconst 1694 rfl (v := 0) dL_law_1693 (by decide) ?_
        cases h
    replace h := x_ifF hc29 h
    refine x_case (30) (fun hc30 => ?_) (fun hc30 => ?_)
    · replace h := x_ifT hc30 h
      refine x_tabIn (off := 1675) 1715 dL_law_40 (by rw [hc30]; decide) (by rw [hc30]; decide) (by rw [hc30]; rfl) (by decide) ?_
      refine x_aload_n 1716 rfl 1 dL_law_1715 rfl rfl ?_
      obtain ⟨⟨q184r, q184s⟩, q184h, h⟩ := x_bind h
      try dsimp only at h
      refine z_callV E [] [] dL_law_1716 K_RL_211 ⟨Nat.le_of_ble_eq_true rfl, Nat.le_of_ble_eq_true rfl⟩ sh_0 (by decide) rfl (c_RH_forget_0 E  q184h) rfl rfl (Nat.le_of_ble_eq_true rfl) 1719 rfl [] rfl ?_
      refine x_aload_n 1720 rfl 2 dL_law_1719 rfl rfl ?_
      obtain ⟨⟨q185r, q185s⟩, q185h, h⟩ := x_bind h
      try dsimp only at h
      refine z_callV E [] [] dL_law_1720 K_RL_214 ⟨Nat.le_of_ble_eq_true rfl, Nat.le_of_ble_eq_true rfl⟩ sh_60 (by decide) rfl (c_Mo_forget_60 E  q185h) rfl rfl (Nat.le_of_ble_eq_true rfl) 1723 rfl [] rfl ?_
      refine x_goto 2205 dL_law_1723 (by decide) ?_
      refine x_iinc 2208 rfl (6) dL_law_2205 rfl (by decide) (by decide) [some (.ref 1500), some (.ref 0), some (.ref 60), some (.ref 96), some (.int _), none, none] rfl ?_
      refine x_goto 23 dL_law_2208 (by decide) ?_
      cases h
      exact x_wk (x_le_s (x_le_s (x_le_s (x_le_s (x_le_s (x_le_n (x_le_n x_le_0))))))) (x_less (Nat.le_succ _) (Nat.le_add_right _ _) (hG (_, _) rfl))
    replace h := x_ifF hc30 h
    refine x_case (31) (fun hc31 => ?_) (fun hc31 => ?_)
    · replace h := x_ifT hc31 h
      refine x_tabIn (off := 1686) 1726 dL_law_40 (by rw [hc31]; decide) (by rw [hc31]; decide) (by rw [hc31]; rfl) (by decide) ?_
      refine x_aload_n 1727 rfl 1 dL_law_1726 rfl rfl ?_
      refine x_aload_n 1728 rfl 0 dL_law_1727 rfl rfl ?_
      refine x_iload 1730 rfl dL_law_1728 rfl ?_
      refine x_iconst 1731 rfl (v := 1) dL_law_1730 (by decide) ?_
      refine x_iadd 1732 rfl dL_law_1731 ?_
      obtain ⟨hz, h⟩ := x_ifn h
      refine z_sald Z dL_law_1732 hz 1733 rfl ?_
      refine x_aload_n 1734 rfl 0 dL_law_1733 rfl rfl ?_
      refine x_iload 1736 rfl dL_law_1734 rfl ?_
      refine x_iconst 1737 rfl (v := 2) dL_law_1736 (by decide) ?_
      refine x_iadd 1738 rfl dL_law_1737 ?_
      obtain ⟨hz, h⟩ := x_ifn h
      refine z_sald Z dL_law_1738 hz 1739 rfl ?_
      refine x_aload_n 1740 rfl 3 dL_law_1739 rfl rfl ?_
      obtain ⟨⟨q187r, q187s⟩, q187h, h⟩ := x_bind h
      try dsimp only at h
      refine z_callHd (bc := bc) (bs := bs) E [.ref 0, .int _, .int _, .ref 96] [] dL_law_1740 KC_RL_215 ⟨(Nat.le_of_ble_eq_true rfl), (Nat.le_of_ble_eq_true rfl)⟩ rfl rfl (Nat.le_of_ble_eq_true rfl) rfl rfl (cw_runs E _ _ q187h) 1743 rfl [.int _] rfl ?_
      refine x_istore 1745 rfl dL_law_1743 (by decide) [some (.ref 1500), some (.ref 0), some (.ref 60), some (.ref 96), some (.int _), some (.int _), none] rfl ?_
      refine x_aload_n 1746 rfl 2 dL_law_1745 rfl rfl ?_
      refine x_aload_n 1747 rfl 0 dL_law_1746 rfl rfl ?_
      refine x_iload 1749 rfl dL_law_1747 rfl ?_
      refine x_iconst 1750 rfl (v := 1) dL_law_1749 (by decide) ?_
      refine x_iadd 1751 rfl dL_law_1750 ?_
      obtain ⟨hz, h⟩ := x_ifn h
      refine z_sald Z dL_law_1751 hz 1752 rfl ?_
      refine x_aload_n 1753 rfl 0 dL_law_1752 rfl rfl ?_
      refine x_iload 1755 rfl dL_law_1753 rfl ?_
      refine x_iconst 1756 rfl (v := 2) dL_law_1755 (by decide) ?_
      refine x_iadd 1757 rfl dL_law_1756 ?_
      obtain ⟨hz, h⟩ := x_ifn h
      refine z_sald Z dL_law_1757 hz 1758 rfl ?_
      obtain ⟨⟨q189r, q189s⟩, q189h, h⟩ := x_bind h
      try dsimp only at h
      refine z_callV E [.int _, .int _] [] dL_law_1758 K_RL_217 ⟨Nat.le_of_ble_eq_true rfl, Nat.le_of_ble_eq_true rfl⟩ sh_60 (by decide) rfl (c_Mo_runs_60 E _ _ q189h) rfl rfl (Nat.le_of_ble_eq_true rfl) 1761 rfl [.int _] rfl ?_
      refine x_istore 1763 rfl dL_law_1761 (by decide) [some (.ref 1500), some (.ref 0), some (.ref 60), some (.ref 96), some (.int _), some (.int _), some (.int _)] rfl ?_
      refine x_aload_n 1764 rfl 2 dL_law_1763 rfl rfl ?_
      obtain ⟨⟨q191r, q191s⟩, q191h, h⟩ := x_bind h
      try dsimp only at h
      refine z_callV E [] [] dL_law_1764 K_RL_109 ⟨Nat.le_of_ble_eq_true rfl, Nat.le_of_ble_eq_true rfl⟩ sh_60 (by decide) rfl (c_Mo_thrown_60 E  q191h) rfl rfl (Nat.le_of_ble_eq_true rfl) 1767 rfl [.int _] rfl ?_
      refine x_iload 1769 rfl dL_law_1767 rfl ?_
      refine x_icmp_eq 1772 rfl 1774 dL_law_1769 (by decide) (fun hc => ?_) (fun hc => ?_)
      · replace h := x_ifT hc h
        refine x_iload 1776 rfl dL_law_1774 rfl ?_
        refine x_if_ne 1779 rfl 1791 dL_law_1776 (by decide) (fun hc => ?_) (fun hc => ?_)
        · replace h := x_ifF hc h
          refine x_goto 2205 dL_law_1791 (by decide) ?_
          refine x_iinc 2208 rfl (6) dL_law_2205 rfl (by decide) (by decide) [some (.ref 1500), some (.ref 0), some (.ref 60), some (.ref 96), some (.int _), some (.int _), some (.int _)] rfl ?_
          refine x_goto 23 dL_law_2208 (by decide) ?_
          cases h
          exact x_wk (x_le_s (x_le_s (x_le_s (x_le_s (x_le_s (x_le_n (x_le_n x_le_0))))))) (hG (_, _) rfl)
        · replace h := x_ifT hc h
          refine x_aload_n 1780 rfl 3 dL_law_1779 rfl rfl ?_
          refine x_iconst 1781 rfl (v := 0) dL_law_1780 (by decide) ?_
          refine x_lald E dL_law_1781 sh_96 0 (by decide) (by decide) 1782 rfl ?_
          refine x_iload 1784 rfl dL_law_1782 rfl ?_
          refine x_i2l 1785 rfl dL_law_1784 ?_
          refine x_lcmp 1786 rfl dL_law_1785 ?_
          refine x_if_eq 1789 rfl 1791 dL_law_1786 (by decide) (fun hc => ?_) (fun hc => ?_)
          · replace h := x_ifT hc h
            refine x_goto 2205 dL_law_1791 (by decide) ?_
            refine x_iinc 2208 rfl (6) dL_law_2205 rfl (by decide) (by decide) [some (.ref 1500), some (.ref 0), some (.ref 60), some (.ref 96), some (.int _), some (.int _), some (.int _)] rfl ?_
            refine x_goto 23 dL_law_2208 (by decide) ?_
            cases h
            exact x_wk (x_le_s (x_le_s (x_le_s (x_le_s (x_le_s (x_le_n (x_le_n x_le_0))))))) (hG (_, _) rfl)
          · replace h := x_ifF hc h
            refine x_iconst 1790 rfl (v := 0) dL_law_1789 (by decide) ?_
            cases h
      · replace h := x_ifF hc h
        refine x_iconst 1773 rfl (v := 0) dL_law_1772 (by decide) ?_
        cases h
    replace h := x_ifF hc31 h
    refine x_case (32) (fun hc32 => ?_) (fun hc32 => ?_)
    · replace h := x_ifT hc32 h
      refine x_tabIn (off := 1754) 1794 dL_law_40 (by rw [hc32]; decide) (by rw [hc32]; decide) (by rw [hc32]; rfl) (by decide) ?_
      refine x_aload_n 1795 rfl 1 dL_law_1794 rfl rfl ?_
      obtain ⟨⟨q194r, q194s⟩, q194h, h⟩ := x_bind h
      try dsimp only at h
      refine z_callV E [] [] dL_law_1795 K_RL_218 ⟨Nat.le_of_ble_eq_true rfl, Nat.le_of_ble_eq_true rfl⟩ sh_0 (by decide) rfl (c_RH_cure_0 E  q194h) rfl rfl (Nat.le_of_ble_eq_true rfl) 1798 rfl [.int _] rfl ?_
      refine x_aload_n 1799 rfl 2 dL_law_1798 rfl rfl ?_
      obtain ⟨⟨q195r, q195s⟩, q195h, h⟩ := x_bind h
      try dsimp only at h
      refine z_callV E [] [.int _] dL_law_1799 K_RL_221 ⟨Nat.le_of_ble_eq_true rfl, Nat.le_of_ble_eq_true rfl⟩ sh_60 (by decide) rfl (c_Mo_cure_60 E  q195h) rfl rfl (Nat.le_of_ble_eq_true rfl) 1802 rfl [.int _, .int _] rfl ?_
      refine x_icmp_eq 1805 rfl 2205 dL_law_1802 (by decide) (fun hc => ?_) (fun hc => ?_)
      · replace h := x_ifT hc h
        refine x_iinc 2208 rfl (6) dL_law_2205 rfl (by decide) (by decide) [some (.ref 1500), some (.ref 0), some (.ref 60), some (.ref 96), some (.int _), none, none] rfl ?_
        refine x_goto 23 dL_law_2208 (by decide) ?_
        cases h
        exact x_wk (x_le_s (x_le_s (x_le_s (x_le_s (x_le_s (x_le_n (x_le_n x_le_0))))))) (x_less (Nat.le_succ _) (Nat.le_add_right _ _) (hG (_, _) rfl))
      · replace h := x_ifF hc h
        refine x_iconst 1806 rfl (v := 0) dL_law_1805 (by decide) ?_
        cases h
    replace h := x_ifF hc32 h
    refine x_case (33) (fun hc33 => ?_) (fun hc33 => ?_)
    · replace h := x_ifT hc33 h
      refine x_tabIn (off := 1767) 1807 dL_law_40 (by rw [hc33]; decide) (by rw [hc33]; decide) (by rw [hc33]; rfl) (by decide) ?_
      refine x_aload_n 1808 rfl 1 dL_law_1807 rfl rfl ?_
      obtain ⟨⟨q197r, q197s⟩, q197h, h⟩ := x_bind h
      try dsimp only at h
      refine z_callV E [] [] dL_law_1808 K_RL_222 ⟨Nat.le_of_ble_eq_true rfl, Nat.le_of_ble_eq_true rfl⟩ sh_0 (by decide) rfl (c_RH_wrists_0 E  q197h) rfl rfl (Nat.le_of_ble_eq_true rfl) 1811 rfl [.int _] rfl ?_
      refine x_aload_n 1812 rfl 2 dL_law_1811 rfl rfl ?_
      obtain ⟨⟨q198r, q198s⟩, q198h, h⟩ := x_bind h
      try dsimp only at h
      refine z_callV E [] [.int _] dL_law_1812 K_RL_225 ⟨Nat.le_of_ble_eq_true rfl, Nat.le_of_ble_eq_true rfl⟩ sh_60 (by decide) rfl (c_Mo_wrists_60 E  q198h) rfl rfl (Nat.le_of_ble_eq_true rfl) 1815 rfl [.int _, .int _] rfl ?_
      refine x_icmp_eq 1818 rfl 2205 dL_law_1815 (by decide) (fun hc => ?_) (fun hc => ?_)
      · replace h := x_ifT hc h
        refine x_iinc 2208 rfl (6) dL_law_2205 rfl (by decide) (by decide) [some (.ref 1500), some (.ref 0), some (.ref 60), some (.ref 96), some (.int _), none, none] rfl ?_
        refine x_goto 23 dL_law_2208 (by decide) ?_
        cases h
        exact x_wk (x_le_s (x_le_s (x_le_s (x_le_s (x_le_s (x_le_n (x_le_n x_le_0))))))) (x_less (Nat.le_succ _) (Nat.le_add_right _ _) (hG (_, _) rfl))
      · replace h := x_ifF hc h
        refine x_iconst 1819 rfl (v := 0) dL_law_1818 (by decide) ?_
        cases h
    replace h := x_ifF hc33 h
    refine x_case (34) (fun hc34 => ?_) (fun hc34 => ?_)
    · replace h := x_ifT hc34 h
      refine x_tabIn (off := 1780) 1820 dL_law_40 (by rw [hc34]; decide) (by rw [hc34]; decide) (by rw [hc34]; rfl) (by decide) ?_
      refine x_aload_n 1821 rfl 1 dL_law_1820 rfl rfl ?_
      obtain ⟨⟨q200r, q200s⟩, q200h, h⟩ := x_bind h
      try dsimp only at h
      refine z_callV E [] [] dL_law_1821 K_RL_226 ⟨Nat.le_of_ble_eq_true rfl, Nat.le_of_ble_eq_true rfl⟩ sh_0 (by decide) rfl (c_RH_learn_0 E  q200h) rfl rfl (Nat.le_of_ble_eq_true rfl) 1824 rfl [.int _] rfl ?_
      refine x_aload_n 1825 rfl 2 dL_law_1824 rfl rfl ?_
      obtain ⟨⟨q201r, q201s⟩, q201h, h⟩ := x_bind h
      try dsimp only at h
      refine z_callV E [] [.int _] dL_law_1825 K_RL_229 ⟨Nat.le_of_ble_eq_true rfl, Nat.le_of_ble_eq_true rfl⟩ sh_60 (by decide) rfl (c_Mo_learn_60 E  q201h) rfl rfl (Nat.le_of_ble_eq_true rfl) 1828 rfl [.int _, .int _] rfl ?_
      refine x_icmp_eq 1831 rfl 2205 dL_law_1828 (by decide) (fun hc => ?_) (fun hc => ?_)
      · replace h := x_ifT hc h
        refine x_iinc 2208 rfl (6) dL_law_2205 rfl (by decide) (by decide) [some (.ref 1500), some (.ref 0), some (.ref 60), some (.ref 96), some (.int _), none, none] rfl ?_
        refine x_goto 23 dL_law_2208 (by decide) ?_
        cases h
        exact x_wk (x_le_s (x_le_s (x_le_s (x_le_s (x_le_s (x_le_n (x_le_n x_le_0))))))) (x_less (Nat.le_succ _) (Nat.le_add_right _ _) (hG (_, _) rfl))
      · replace h := x_ifF hc h
        refine x_iconst 1832 rfl (v := 0) dL_law_1831 (by decide) ?_
        cases h
    replace h := x_ifF hc34 h
    refine x_case (35) (fun hc35 => ?_) (fun hc35 => ?_)
    · replace h := x_ifT hc35 h
      refine x_tabIn (off := 1793) 1833 dL_law_40 (by rw [hc35]; decide) (by rw [hc35]; decide) (by rw [hc35]; rfl) (by decide) ?_
      refine x_aload_n 1834 rfl 1 dL_law_1833 rfl rfl ?_
      refine x_aload_n 1835 rfl 0 dL_law_1834 rfl rfl ?_
      refine x_iload 1837 rfl dL_law_1835 rfl ?_
      refine x_iconst 1838 rfl (v := 1) dL_law_1837 (by decide) ?_
      refine x_iadd 1839 rfl dL_law_1838 ?_
      obtain ⟨hz, h⟩ := x_ifn h
      refine z_sald Z dL_law_1839 hz 1840 rfl ?_
      refine x_aload_n 1841 rfl 3 dL_law_1840 rfl rfl ?_
      obtain ⟨⟨q203r, q203s⟩, q203h, h⟩ := x_bind h
      try dsimp only at h
      refine z_callHd (bc := bc) (bs := bs) E [.ref 0, .int _, .ref 96] [] dL_law_1841 KC_RL_230 ⟨(Nat.le_of_ble_eq_true rfl), (Nat.le_of_ble_eq_true rfl)⟩ rfl rfl (Nat.le_of_ble_eq_true rfl) rfl rfl (cw_shift E _ q203h) 1844 rfl [.int _] rfl ?_
      refine x_istore 1846 rfl dL_law_1844 (by decide) [some (.ref 1500), some (.ref 0), some (.ref 60), some (.ref 96), some (.int _), some (.int _), none] rfl ?_
      refine x_aload_n 1847 rfl 2 dL_law_1846 rfl rfl ?_
      refine x_aload_n 1848 rfl 0 dL_law_1847 rfl rfl ?_
      refine x_iload 1850 rfl dL_law_1848 rfl ?_
      refine x_iconst 1851 rfl (v := 1) dL_law_1850 (by decide) ?_
      refine x_iadd 1852 rfl dL_law_1851 ?_
      obtain ⟨hz, h⟩ := x_ifn h
      refine z_sald Z dL_law_1852 hz 1853 rfl ?_
      obtain ⟨⟨q205r, q205s⟩, q205h, h⟩ := x_bind h
      try dsimp only at h
      refine z_callV E [.int _] [] dL_law_1853 K_RL_232 ⟨Nat.le_of_ble_eq_true rfl, Nat.le_of_ble_eq_true rfl⟩ sh_60 (by decide) rfl (c_Mo_shift_60 E _ q205h) rfl rfl (Nat.le_of_ble_eq_true rfl) 1856 rfl [.int _] rfl ?_
      refine x_istore 1858 rfl dL_law_1856 (by decide) [some (.ref 1500), some (.ref 0), some (.ref 60), some (.ref 96), some (.int _), some (.int _), some (.int _)] rfl ?_
      refine x_aload_n 1859 rfl 2 dL_law_1858 rfl rfl ?_
      obtain ⟨⟨q207r, q207s⟩, q207h, h⟩ := x_bind h
      try dsimp only at h
      refine z_callV E [] [] dL_law_1859 K_RL_109 ⟨Nat.le_of_ble_eq_true rfl, Nat.le_of_ble_eq_true rfl⟩ sh_60 (by decide) rfl (c_Mo_thrown_60 E  q207h) rfl rfl (Nat.le_of_ble_eq_true rfl) 1862 rfl [.int _] rfl ?_
      refine x_iload 1864 rfl dL_law_1862 rfl ?_
      refine x_icmp_eq 1867 rfl 1869 dL_law_1864 (by decide) (fun hc => ?_) (fun hc => ?_)
      · replace h := x_ifT hc h
        refine x_iload 1871 rfl dL_law_1869 rfl ?_
        refine x_if_ne 1874 rfl 1886 dL_law_1871 (by decide) (fun hc => ?_) (fun hc => ?_)
        · replace h := x_ifF hc h
          refine x_goto 2205 dL_law_1886 (by decide) ?_
          refine x_iinc 2208 rfl (6) dL_law_2205 rfl (by decide) (by decide) [some (.ref 1500), some (.ref 0), some (.ref 60), some (.ref 96), some (.int _), some (.int _), some (.int _)] rfl ?_
          refine x_goto 23 dL_law_2208 (by decide) ?_
          cases h
          exact x_wk (x_le_s (x_le_s (x_le_s (x_le_s (x_le_s (x_le_n (x_le_n x_le_0))))))) (hG (_, _) rfl)
        · replace h := x_ifT hc h
          refine x_aload_n 1875 rfl 3 dL_law_1874 rfl rfl ?_
          refine x_iconst 1876 rfl (v := 0) dL_law_1875 (by decide) ?_
          refine x_lald E dL_law_1876 sh_96 0 (by decide) (by decide) 1877 rfl ?_
          refine x_iload 1879 rfl dL_law_1877 rfl ?_
          refine x_i2l 1880 rfl dL_law_1879 ?_
          refine x_lcmp 1881 rfl dL_law_1880 ?_
          refine x_if_eq 1884 rfl 1886 dL_law_1881 (by decide) (fun hc => ?_) (fun hc => ?_)
          · replace h := x_ifT hc h
            refine x_goto 2205 dL_law_1886 (by decide) ?_
            refine x_iinc 2208 rfl (6) dL_law_2205 rfl (by decide) (by decide) [some (.ref 1500), some (.ref 0), some (.ref 60), some (.ref 96), some (.int _), some (.int _), some (.int _)] rfl ?_
            refine x_goto 23 dL_law_2208 (by decide) ?_
            cases h
            exact x_wk (x_le_s (x_le_s (x_le_s (x_le_s (x_le_s (x_le_n (x_le_n x_le_0))))))) (hG (_, _) rfl)
          · replace h := x_ifF hc h
            refine x_iconst 1885 rfl (v := 0) dL_law_1884 (by decide) ?_
            cases h
      · replace h := x_ifF hc h
        refine x_iconst 1868 rfl (v := 0) dL_law_1867 (by decide) ?_
        cases h
    replace h := x_ifF hc35 h
    refine x_case (36) (fun hc36 => ?_) (fun hc36 => ?_)
    · replace h := x_ifT hc36 h
      refine x_tabIn (off := 1849) 1889 dL_law_40 (by rw [hc36]; decide) (by rw [hc36]; decide) (by rw [hc36]; rfl) (by decide) ?_
      refine x_aload_n 1890 rfl 1 dL_law_1889 rfl rfl ?_
      refine x_aload_n 1891 rfl 0 dL_law_1890 rfl rfl ?_
      refine x_iload 1893 rfl dL_law_1891 rfl ?_
      refine x_iconst 1894 rfl (v := 1) dL_law_1893 (by decide) ?_
      refine x_iadd 1895 rfl dL_law_1894 ?_
      obtain ⟨hz, h⟩ := x_ifn h
      refine z_sald Z dL_law_1895 hz 1896 rfl ?_
      refine x_aload_n 1897 rfl 3 dL_law_1896 rfl rfl ?_
      obtain ⟨⟨q210r, q210s⟩, q210h, h⟩ := x_bind h
      try dsimp only at h
      refine z_callHd (bc := bc) (bs := bs) E [.ref 0, .int _, .ref 96] [] dL_law_1897 KC_RL_233 ⟨(Nat.le_of_ble_eq_true rfl), (Nat.le_of_ble_eq_true rfl)⟩ rfl rfl (Nat.le_of_ble_eq_true rfl) rfl rfl (cw_slip E _ q210h) 1900 rfl [.int _] rfl ?_
      refine x_istore 1902 rfl dL_law_1900 (by decide) [some (.ref 1500), some (.ref 0), some (.ref 60), some (.ref 96), some (.int _), some (.int _), none] rfl ?_
      refine x_aload_n 1903 rfl 2 dL_law_1902 rfl rfl ?_
      refine x_aload_n 1904 rfl 0 dL_law_1903 rfl rfl ?_
      refine x_iload 1906 rfl dL_law_1904 rfl ?_
      refine x_iconst 1907 rfl (v := 1) dL_law_1906 (by decide) ?_
      refine x_iadd 1908 rfl dL_law_1907 ?_
      obtain ⟨hz, h⟩ := x_ifn h
      refine z_sald Z dL_law_1908 hz 1909 rfl ?_
      obtain ⟨⟨q212r, q212s⟩, q212h, h⟩ := x_bind h
      try dsimp only at h
      refine z_callV E [.int _] [] dL_law_1909 K_RL_235 ⟨Nat.le_of_ble_eq_true rfl, Nat.le_of_ble_eq_true rfl⟩ sh_60 (by decide) rfl (c_Mo_slip_60 E _ q212h) rfl rfl (Nat.le_of_ble_eq_true rfl) 1912 rfl [.int _] rfl ?_
      refine x_istore 1914 rfl dL_law_1912 (by decide) [some (.ref 1500), some (.ref 0), some (.ref 60), some (.ref 96), some (.int _), some (.int _), some (.int _)] rfl ?_
      refine x_aload_n 1915 rfl 2 dL_law_1914 rfl rfl ?_
      obtain ⟨⟨q214r, q214s⟩, q214h, h⟩ := x_bind h
      try dsimp only at h
      refine z_callV E [] [] dL_law_1915 K_RL_109 ⟨Nat.le_of_ble_eq_true rfl, Nat.le_of_ble_eq_true rfl⟩ sh_60 (by decide) rfl (c_Mo_thrown_60 E  q214h) rfl rfl (Nat.le_of_ble_eq_true rfl) 1918 rfl [.int _] rfl ?_
      refine x_iload 1920 rfl dL_law_1918 rfl ?_
      refine x_icmp_eq 1923 rfl 1925 dL_law_1920 (by decide) (fun hc => ?_) (fun hc => ?_)
      · replace h := x_ifT hc h
        refine x_iload 1927 rfl dL_law_1925 rfl ?_
        refine x_if_ne 1930 rfl 1942 dL_law_1927 (by decide) (fun hc => ?_) (fun hc => ?_)
        · replace h := x_ifF hc h
          refine x_goto 2205 dL_law_1942 (by decide) ?_
          refine x_iinc 2208 rfl (6) dL_law_2205 rfl (by decide) (by decide) [some (.ref 1500), some (.ref 0), some (.ref 60), some (.ref 96), some (.int _), some (.int _), some (.int _)] rfl ?_
          refine x_goto 23 dL_law_2208 (by decide) ?_
          cases h
          exact x_wk (x_le_s (x_le_s (x_le_s (x_le_s (x_le_s (x_le_n (x_le_n x_le_0))))))) (hG (_, _) rfl)
        · replace h := x_ifT hc h
          refine x_aload_n 1931 rfl 3 dL_law_1930 rfl rfl ?_
          refine x_iconst 1932 rfl (v := 0) dL_law_1931 (by decide) ?_
          refine x_lald E dL_law_1932 sh_96 0 (by decide) (by decide) 1933 rfl ?_
          refine x_iload 1935 rfl dL_law_1933 rfl ?_
          refine x_i2l 1936 rfl dL_law_1935 ?_
          refine x_lcmp 1937 rfl dL_law_1936 ?_
          refine x_if_eq 1940 rfl 1942 dL_law_1937 (by decide) (fun hc => ?_) (fun hc => ?_)
          · replace h := x_ifT hc h
            refine x_goto 2205 dL_law_1942 (by decide) ?_
            refine x_iinc 2208 rfl (6) dL_law_2205 rfl (by decide) (by decide) [some (.ref 1500), some (.ref 0), some (.ref 60), some (.ref 96), some (.int _), some (.int _), some (.int _)] rfl ?_
            refine x_goto 23 dL_law_2208 (by decide) ?_
            cases h
            exact x_wk (x_le_s (x_le_s (x_le_s (x_le_s (x_le_s (x_le_n (x_le_n x_le_0))))))) (hG (_, _) rfl)
          · replace h := x_ifF hc h
            refine x_iconst 1941 rfl (v := 0) dL_law_1940 (by decide) ?_
            cases h
      · replace h := x_ifF hc h
        refine x_iconst 1924 rfl (v := 0) dL_law_1923 (by decide) ?_
        cases h
    replace h := x_ifF hc36 h
    refine x_case (37) (fun hc37 => ?_) (fun hc37 => ?_)
    · replace h := x_ifT hc37 h
      refine x_tabIn (off := 1905) 1945 dL_law_40 (by rw [hc37]; decide) (by rw [hc37]; decide) (by rw [hc37]; rfl) (by decide) ?_
      refine x_aload_n 1946 rfl 1 dL_law_1945 rfl rfl ?_
      refine x_aload_n 1947 rfl 0 dL_law_1946 rfl rfl ?_
      refine x_iload 1949 rfl dL_law_1947 rfl ?_
      refine x_iconst 1950 rfl (v := 1) dL_law_1949 (by decide) ?_
      refine x_iadd 1951 rfl dL_law_1950 ?_
      obtain ⟨hz, h⟩ := x_ifn h
      refine z_sald Z dL_law_1951 hz 1952 rfl ?_
      refine x_aload_n 1953 rfl 3 dL_law_1952 rfl rfl ?_
      obtain ⟨⟨q217r, q217s⟩, q217h, h⟩ := x_bind h
      try dsimp only at h
      refine z_callHd (bc := bc) (bs := bs) E [.ref 0, .int _, .ref 96] [] dL_law_1953 KC_RL_236 ⟨(Nat.le_of_ble_eq_true rfl), (Nat.le_of_ble_eq_true rfl)⟩ rfl rfl (Nat.le_of_ble_eq_true rfl) rfl rfl (cw_lags E _ q217h) 1956 rfl [.int _] rfl ?_
      refine x_istore 1958 rfl dL_law_1956 (by decide) [some (.ref 1500), some (.ref 0), some (.ref 60), some (.ref 96), some (.int _), some (.int _), none] rfl ?_
      refine x_aload_n 1959 rfl 2 dL_law_1958 rfl rfl ?_
      refine x_aload_n 1960 rfl 0 dL_law_1959 rfl rfl ?_
      refine x_iload 1962 rfl dL_law_1960 rfl ?_
      refine x_iconst 1963 rfl (v := 1) dL_law_1962 (by decide) ?_
      refine x_iadd 1964 rfl dL_law_1963 ?_
      obtain ⟨hz, h⟩ := x_ifn h
      refine z_sald Z dL_law_1964 hz 1965 rfl ?_
      obtain ⟨⟨q219r, q219s⟩, q219h, h⟩ := x_bind h
      try dsimp only at h
      refine z_callV E [.int _] [] dL_law_1965 K_RL_238 ⟨Nat.le_of_ble_eq_true rfl, Nat.le_of_ble_eq_true rfl⟩ sh_60 (by decide) rfl (c_Mo_lags_60 E _ q219h) rfl rfl (Nat.le_of_ble_eq_true rfl) 1968 rfl [.int _] rfl ?_
      refine x_istore 1970 rfl dL_law_1968 (by decide) [some (.ref 1500), some (.ref 0), some (.ref 60), some (.ref 96), some (.int _), some (.int _), some (.int _)] rfl ?_
      refine x_aload_n 1971 rfl 2 dL_law_1970 rfl rfl ?_
      obtain ⟨⟨q221r, q221s⟩, q221h, h⟩ := x_bind h
      try dsimp only at h
      refine z_callV E [] [] dL_law_1971 K_RL_109 ⟨Nat.le_of_ble_eq_true rfl, Nat.le_of_ble_eq_true rfl⟩ sh_60 (by decide) rfl (c_Mo_thrown_60 E  q221h) rfl rfl (Nat.le_of_ble_eq_true rfl) 1974 rfl [.int _] rfl ?_
      refine x_iload 1976 rfl dL_law_1974 rfl ?_
      refine x_icmp_eq 1979 rfl 1981 dL_law_1976 (by decide) (fun hc => ?_) (fun hc => ?_)
      · replace h := x_ifT hc h
        refine x_iload 1983 rfl dL_law_1981 rfl ?_
        refine x_if_ne 1986 rfl 1998 dL_law_1983 (by decide) (fun hc => ?_) (fun hc => ?_)
        · replace h := x_ifF hc h
          refine x_goto 2205 dL_law_1998 (by decide) ?_
          refine x_iinc 2208 rfl (6) dL_law_2205 rfl (by decide) (by decide) [some (.ref 1500), some (.ref 0), some (.ref 60), some (.ref 96), some (.int _), some (.int _), some (.int _)] rfl ?_
          refine x_goto 23 dL_law_2208 (by decide) ?_
          cases h
          exact x_wk (x_le_s (x_le_s (x_le_s (x_le_s (x_le_s (x_le_n (x_le_n x_le_0))))))) (hG (_, _) rfl)
        · replace h := x_ifT hc h
          refine x_aload_n 1987 rfl 3 dL_law_1986 rfl rfl ?_
          refine x_iconst 1988 rfl (v := 0) dL_law_1987 (by decide) ?_
          refine x_lald E dL_law_1988 sh_96 0 (by decide) (by decide) 1989 rfl ?_
          refine x_iload 1991 rfl dL_law_1989 rfl ?_
          refine x_i2l 1992 rfl dL_law_1991 ?_
          refine x_lcmp 1993 rfl dL_law_1992 ?_
          refine x_if_eq 1996 rfl 1998 dL_law_1993 (by decide) (fun hc => ?_) (fun hc => ?_)
          · replace h := x_ifT hc h
            refine x_goto 2205 dL_law_1998 (by decide) ?_
            refine x_iinc 2208 rfl (6) dL_law_2205 rfl (by decide) (by decide) [some (.ref 1500), some (.ref 0), some (.ref 60), some (.ref 96), some (.int _), some (.int _), some (.int _)] rfl ?_
            refine x_goto 23 dL_law_2208 (by decide) ?_
            cases h
            exact x_wk (x_le_s (x_le_s (x_le_s (x_le_s (x_le_s (x_le_n (x_le_n x_le_0))))))) (hG (_, _) rfl)
          · replace h := x_ifF hc h
            refine x_iconst 1997 rfl (v := 0) dL_law_1996 (by decide) ?_
            cases h
      · replace h := x_ifF hc h
        refine x_iconst 1980 rfl (v := 0) dL_law_1979 (by decide) ?_
        cases h
    replace h := x_ifF hc37 h
    refine x_case (38) (fun hc38 => ?_) (fun hc38 => ?_)
    · replace h := x_ifT hc38 h
      refine x_tabIn (off := 1961) 2001 dL_law_40 (by rw [hc38]; decide) (by rw [hc38]; decide) (by rw [hc38]; rfl) (by decide) ?_
      refine x_aload_n 2002 rfl 1 dL_law_2001 rfl rfl ?_
      refine x_aload_n 2003 rfl 0 dL_law_2002 rfl rfl ?_
      refine x_iload 2005 rfl dL_law_2003 rfl ?_
      refine x_iconst 2006 rfl (v := 1) dL_law_2005 (by decide) ?_
      refine x_iadd 2007 rfl dL_law_2006 ?_
      obtain ⟨hz, h⟩ := x_ifn h
      refine z_sald Z dL_law_2007 hz 2008 rfl ?_
      refine x_aload_n 2009 rfl 0 dL_law_2008 rfl rfl ?_
      refine x_iload 2011 rfl dL_law_2009 rfl ?_
      refine x_iconst 2012 rfl (v := 2) dL_law_2011 (by decide) ?_
      refine x_iadd 2013 rfl dL_law_2012 ?_
      obtain ⟨hz, h⟩ := x_ifn h
      refine z_sald Z dL_law_2013 hz 2014 rfl ?_
      refine x_aload_n 2015 rfl 3 dL_law_2014 rfl rfl ?_
      obtain ⟨⟨q224r, q224s⟩, q224h, h⟩ := x_bind h
      try dsimp only at h
      refine z_callHd (bc := bc) (bs := bs) E [.ref 0, .int _, .int _, .ref 96] [] dL_law_2015 KC_RL_239 ⟨(Nat.le_of_ble_eq_true rfl), (Nat.le_of_ble_eq_true rfl)⟩ rfl rfl (Nat.le_of_ble_eq_true rfl) rfl rfl (cw_depth E _ _ q224h) 2018 rfl [.int _] rfl ?_
      refine x_istore 2020 rfl dL_law_2018 (by decide) [some (.ref 1500), some (.ref 0), some (.ref 60), some (.ref 96), some (.int _), some (.int _), none] rfl ?_
      refine x_aload_n 2021 rfl 2 dL_law_2020 rfl rfl ?_
      refine x_aload_n 2022 rfl 0 dL_law_2021 rfl rfl ?_
      refine x_iload 2024 rfl dL_law_2022 rfl ?_
      refine x_iconst 2025 rfl (v := 1) dL_law_2024 (by decide) ?_
      refine x_iadd 2026 rfl dL_law_2025 ?_
      obtain ⟨hz, h⟩ := x_ifn h
      refine z_sald Z dL_law_2026 hz 2027 rfl ?_
      refine x_aload_n 2028 rfl 0 dL_law_2027 rfl rfl ?_
      refine x_iload 2030 rfl dL_law_2028 rfl ?_
      refine x_iconst 2031 rfl (v := 2) dL_law_2030 (by decide) ?_
      refine x_iadd 2032 rfl dL_law_2031 ?_
      obtain ⟨hz, h⟩ := x_ifn h
      refine z_sald Z dL_law_2032 hz 2033 rfl ?_
      obtain ⟨⟨q226r, q226s⟩, q226h, h⟩ := x_bind h
      try dsimp only at h
      refine z_callV E [.int _, .int _] [] dL_law_2033 K_RL_241 ⟨Nat.le_of_ble_eq_true rfl, Nat.le_of_ble_eq_true rfl⟩ sh_60 (by decide) rfl (c_Mo_depth_60 E _ _ q226h) rfl rfl (Nat.le_of_ble_eq_true rfl) 2036 rfl [.int _] rfl ?_
      refine x_istore 2038 rfl dL_law_2036 (by decide) [some (.ref 1500), some (.ref 0), some (.ref 60), some (.ref 96), some (.int _), some (.int _), some (.int _)] rfl ?_
      refine x_aload_n 2039 rfl 2 dL_law_2038 rfl rfl ?_
      obtain ⟨⟨q228r, q228s⟩, q228h, h⟩ := x_bind h
      try dsimp only at h
      refine z_callV E [] [] dL_law_2039 K_RL_109 ⟨Nat.le_of_ble_eq_true rfl, Nat.le_of_ble_eq_true rfl⟩ sh_60 (by decide) rfl (c_Mo_thrown_60 E  q228h) rfl rfl (Nat.le_of_ble_eq_true rfl) 2042 rfl [.int _] rfl ?_
      refine x_iload 2044 rfl dL_law_2042 rfl ?_
      refine x_icmp_eq 2047 rfl 2049 dL_law_2044 (by decide) (fun hc => ?_) (fun hc => ?_)
      · replace h := x_ifT hc h
        refine x_iload 2051 rfl dL_law_2049 rfl ?_
        refine x_if_ne 2054 rfl 2066 dL_law_2051 (by decide) (fun hc => ?_) (fun hc => ?_)
        · replace h := x_ifF hc h
          refine x_goto 2205 dL_law_2066 (by decide) ?_
          refine x_iinc 2208 rfl (6) dL_law_2205 rfl (by decide) (by decide) [some (.ref 1500), some (.ref 0), some (.ref 60), some (.ref 96), some (.int _), some (.int _), some (.int _)] rfl ?_
          refine x_goto 23 dL_law_2208 (by decide) ?_
          cases h
          exact x_wk (x_le_s (x_le_s (x_le_s (x_le_s (x_le_s (x_le_n (x_le_n x_le_0))))))) (hG (_, _) rfl)
        · replace h := x_ifT hc h
          refine x_aload_n 2055 rfl 3 dL_law_2054 rfl rfl ?_
          refine x_iconst 2056 rfl (v := 0) dL_law_2055 (by decide) ?_
          refine x_lald E dL_law_2056 sh_96 0 (by decide) (by decide) 2057 rfl ?_
          refine x_iload 2059 rfl dL_law_2057 rfl ?_
          refine x_i2l 2060 rfl dL_law_2059 ?_
          refine x_lcmp 2061 rfl dL_law_2060 ?_
          refine x_if_eq 2064 rfl 2066 dL_law_2061 (by decide) (fun hc => ?_) (fun hc => ?_)
          · replace h := x_ifT hc h
            refine x_goto 2205 dL_law_2066 (by decide) ?_
            refine x_iinc 2208 rfl (6) dL_law_2205 rfl (by decide) (by decide) [some (.ref 1500), some (.ref 0), some (.ref 60), some (.ref 96), some (.int _), some (.int _), some (.int _)] rfl ?_
            refine x_goto 23 dL_law_2208 (by decide) ?_
            cases h
            exact x_wk (x_le_s (x_le_s (x_le_s (x_le_s (x_le_s (x_le_n (x_le_n x_le_0))))))) (hG (_, _) rfl)
          · replace h := x_ifF hc h
            refine x_iconst 2065 rfl (v := 0) dL_law_2064 (by decide) ?_
            cases h
      · replace h := x_ifF hc h
        refine x_iconst 2048 rfl (v := 0) dL_law_2047 (by decide) ?_
        cases h
    replace h := x_ifF hc38 h
    refine x_case (39) (fun hc39 => ?_) (fun hc39 => ?_)
    · replace h := x_ifT hc39 h
      refine x_tabIn (off := 2029) 2069 dL_law_40 (by rw [hc39]; decide) (by rw [hc39]; decide) (by rw [hc39]; rfl) (by decide) ?_
      refine x_aload_n 2070 rfl 1 dL_law_2069 rfl rfl ?_
      refine x_aload_n 2071 rfl 0 dL_law_2070 rfl rfl ?_
      refine x_iload 2073 rfl dL_law_2071 rfl ?_
      refine x_iconst 2074 rfl (v := 1) dL_law_2073 (by decide) ?_
      refine x_iadd 2075 rfl dL_law_2074 ?_
      obtain ⟨hz, h⟩ := x_ifn h
      refine z_sald Z dL_law_2075 hz 2076 rfl ?_
      refine x_aload_n 2077 rfl 3 dL_law_2076 rfl rfl ?_
      obtain ⟨⟨q231r, q231s⟩, q231h, h⟩ := x_bind h
      try dsimp only at h
      refine z_callHd (bc := bc) (bs := bs) E [.ref 0, .int _, .ref 96] [] dL_law_2077 KC_RL_242 ⟨(Nat.le_of_ble_eq_true rfl), (Nat.le_of_ble_eq_true rfl)⟩ rfl rfl (Nat.le_of_ble_eq_true rfl) rfl rfl (cw_shots E _ q231h) 2080 rfl [.int _] rfl ?_
      refine x_istore 2082 rfl dL_law_2080 (by decide) [some (.ref 1500), some (.ref 0), some (.ref 60), some (.ref 96), some (.int _), some (.int _), none] rfl ?_
      refine x_aload_n 2083 rfl 2 dL_law_2082 rfl rfl ?_
      refine x_aload_n 2084 rfl 0 dL_law_2083 rfl rfl ?_
      refine x_iload 2086 rfl dL_law_2084 rfl ?_
      refine x_iconst 2087 rfl (v := 1) dL_law_2086 (by decide) ?_
      refine x_iadd 2088 rfl dL_law_2087 ?_
      obtain ⟨hz, h⟩ := x_ifn h
      refine z_sald Z dL_law_2088 hz 2089 rfl ?_
      obtain ⟨⟨q233r, q233s⟩, q233h, h⟩ := x_bind h
      try dsimp only at h
      refine z_callV E [.int _] [] dL_law_2089 K_RL_244 ⟨Nat.le_of_ble_eq_true rfl, Nat.le_of_ble_eq_true rfl⟩ sh_60 (by decide) rfl (c_Mo_shots_60 E _ q233h) rfl rfl (Nat.le_of_ble_eq_true rfl) 2092 rfl [.int _] rfl ?_
      refine x_istore 2094 rfl dL_law_2092 (by decide) [some (.ref 1500), some (.ref 0), some (.ref 60), some (.ref 96), some (.int _), some (.int _), some (.int _)] rfl ?_
      refine x_aload_n 2095 rfl 2 dL_law_2094 rfl rfl ?_
      obtain ⟨⟨q235r, q235s⟩, q235h, h⟩ := x_bind h
      try dsimp only at h
      refine z_callV E [] [] dL_law_2095 K_RL_109 ⟨Nat.le_of_ble_eq_true rfl, Nat.le_of_ble_eq_true rfl⟩ sh_60 (by decide) rfl (c_Mo_thrown_60 E  q235h) rfl rfl (Nat.le_of_ble_eq_true rfl) 2098 rfl [.int _] rfl ?_
      refine x_iload 2100 rfl dL_law_2098 rfl ?_
      refine x_icmp_eq 2103 rfl 2105 dL_law_2100 (by decide) (fun hc => ?_) (fun hc => ?_)
      · replace h := x_ifT hc h
        refine x_iload 2107 rfl dL_law_2105 rfl ?_
        refine x_if_ne 2110 rfl 2122 dL_law_2107 (by decide) (fun hc => ?_) (fun hc => ?_)
        · replace h := x_ifF hc h
          refine x_goto 2205 dL_law_2122 (by decide) ?_
          refine x_iinc 2208 rfl (6) dL_law_2205 rfl (by decide) (by decide) [some (.ref 1500), some (.ref 0), some (.ref 60), some (.ref 96), some (.int _), some (.int _), some (.int _)] rfl ?_
          refine x_goto 23 dL_law_2208 (by decide) ?_
          cases h
          exact x_wk (x_le_s (x_le_s (x_le_s (x_le_s (x_le_s (x_le_n (x_le_n x_le_0))))))) (hG (_, _) rfl)
        · replace h := x_ifT hc h
          refine x_aload_n 2111 rfl 3 dL_law_2110 rfl rfl ?_
          refine x_iconst 2112 rfl (v := 0) dL_law_2111 (by decide) ?_
          refine x_lald E dL_law_2112 sh_96 0 (by decide) (by decide) 2113 rfl ?_
          refine x_iload 2115 rfl dL_law_2113 rfl ?_
          refine x_i2l 2116 rfl dL_law_2115 ?_
          refine x_lcmp 2117 rfl dL_law_2116 ?_
          refine x_if_eq 2120 rfl 2122 dL_law_2117 (by decide) (fun hc => ?_) (fun hc => ?_)
          · replace h := x_ifT hc h
            refine x_goto 2205 dL_law_2122 (by decide) ?_
            refine x_iinc 2208 rfl (6) dL_law_2205 rfl (by decide) (by decide) [some (.ref 1500), some (.ref 0), some (.ref 60), some (.ref 96), some (.int _), some (.int _), some (.int _)] rfl ?_
            refine x_goto 23 dL_law_2208 (by decide) ?_
            cases h
            exact x_wk (x_le_s (x_le_s (x_le_s (x_le_s (x_le_s (x_le_n (x_le_n x_le_0))))))) (hG (_, _) rfl)
          · replace h := x_ifF hc h
            refine x_iconst 2121 rfl (v := 0) dL_law_2120 (by decide) ?_
            cases h
      · replace h := x_ifF hc h
        refine x_iconst 2104 rfl (v := 0) dL_law_2103 (by decide) ?_
        cases h
    replace h := x_ifF hc39 h
    refine x_case (40) (fun hc40 => ?_) (fun hc40 => ?_)
    · replace h := x_ifT hc40 h
      refine x_tabIn (off := 2085) 2125 dL_law_40 (by rw [hc40]; decide) (by rw [hc40]; decide) (by rw [hc40]; rfl) (by decide) ?_
      refine x_aload_n 2126 rfl 1 dL_law_2125 rfl rfl ?_
      refine x_aload_n 2127 rfl 0 dL_law_2126 rfl rfl ?_
      refine x_iload 2129 rfl dL_law_2127 rfl ?_
      refine x_iconst 2130 rfl (v := 1) dL_law_2129 (by decide) ?_
      refine x_iadd 2131 rfl dL_law_2130 ?_
      obtain ⟨hz, h⟩ := x_ifn h
      refine z_sald Z dL_law_2131 hz 2132 rfl ?_
      refine x_aload_n 2133 rfl 3 dL_law_2132 rfl rfl ?_
      obtain ⟨⟨q238r, q238s⟩, q238h, h⟩ := x_bind h
      try dsimp only at h
      refine z_callHd (bc := bc) (bs := bs) E [.ref 0, .int _, .ref 96] [] dL_law_2133 KC_RL_245 ⟨(Nat.le_of_ble_eq_true rfl), (Nat.le_of_ble_eq_true rfl)⟩ rfl rfl (Nat.le_of_ble_eq_true rfl) rfl rfl (cw_quickest E _ q238h) 2136 rfl [.int _] rfl ?_
      refine x_istore 2138 rfl dL_law_2136 (by decide) [some (.ref 1500), some (.ref 0), some (.ref 60), some (.ref 96), some (.int _), some (.int _), none] rfl ?_
      refine x_aload_n 2139 rfl 2 dL_law_2138 rfl rfl ?_
      refine x_aload_n 2140 rfl 0 dL_law_2139 rfl rfl ?_
      refine x_iload 2142 rfl dL_law_2140 rfl ?_
      refine x_iconst 2143 rfl (v := 1) dL_law_2142 (by decide) ?_
      refine x_iadd 2144 rfl dL_law_2143 ?_
      obtain ⟨hz, h⟩ := x_ifn h
      refine z_sald Z dL_law_2144 hz 2145 rfl ?_
      obtain ⟨⟨q240r, q240s⟩, q240h, h⟩ := x_bind h
      try dsimp only at h
      refine z_callV E [.int _] [] dL_law_2145 K_RL_247 ⟨Nat.le_of_ble_eq_true rfl, Nat.le_of_ble_eq_true rfl⟩ sh_60 (by decide) rfl (c_Mo_quickest_60 E _ q240h) rfl rfl (Nat.le_of_ble_eq_true rfl) 2148 rfl [.int _] rfl ?_
      refine x_istore 2150 rfl dL_law_2148 (by decide) [some (.ref 1500), some (.ref 0), some (.ref 60), some (.ref 96), some (.int _), some (.int _), some (.int _)] rfl ?_
      refine x_aload_n 2151 rfl 2 dL_law_2150 rfl rfl ?_
      obtain ⟨⟨q242r, q242s⟩, q242h, h⟩ := x_bind h
      try dsimp only at h
      refine z_callV E [] [] dL_law_2151 K_RL_109 ⟨Nat.le_of_ble_eq_true rfl, Nat.le_of_ble_eq_true rfl⟩ sh_60 (by decide) rfl (c_Mo_thrown_60 E  q242h) rfl rfl (Nat.le_of_ble_eq_true rfl) 2154 rfl [.int _] rfl ?_
      refine x_iload 2156 rfl dL_law_2154 rfl ?_
      refine x_icmp_eq 2159 rfl 2161 dL_law_2156 (by decide) (fun hc => ?_) (fun hc => ?_)
      · replace h := x_ifT hc h
        refine x_iload 2163 rfl dL_law_2161 rfl ?_
        refine x_if_ne 2166 rfl 2178 dL_law_2163 (by decide) (fun hc => ?_) (fun hc => ?_)
        · replace h := x_ifF hc h
          refine x_goto 2205 dL_law_2178 (by decide) ?_
          refine x_iinc 2208 rfl (6) dL_law_2205 rfl (by decide) (by decide) [some (.ref 1500), some (.ref 0), some (.ref 60), some (.ref 96), some (.int _), some (.int _), some (.int _)] rfl ?_
          refine x_goto 23 dL_law_2208 (by decide) ?_
          cases h
          exact x_wk (x_le_s (x_le_s (x_le_s (x_le_s (x_le_s (x_le_n (x_le_n x_le_0))))))) (hG (_, _) rfl)
        · replace h := x_ifT hc h
          refine x_aload_n 2167 rfl 3 dL_law_2166 rfl rfl ?_
          refine x_iconst 2168 rfl (v := 0) dL_law_2167 (by decide) ?_
          refine x_lald E dL_law_2168 sh_96 0 (by decide) (by decide) 2169 rfl ?_
          refine x_iload 2171 rfl dL_law_2169 rfl ?_
          refine x_i2l 2172 rfl dL_law_2171 ?_
          refine x_lcmp 2173 rfl dL_law_2172 ?_
          refine x_if_eq 2176 rfl 2178 dL_law_2173 (by decide) (fun hc => ?_) (fun hc => ?_)
          · replace h := x_ifT hc h
            refine x_goto 2205 dL_law_2178 (by decide) ?_
            refine x_iinc 2208 rfl (6) dL_law_2205 rfl (by decide) (by decide) [some (.ref 1500), some (.ref 0), some (.ref 60), some (.ref 96), some (.int _), some (.int _), some (.int _)] rfl ?_
            refine x_goto 23 dL_law_2208 (by decide) ?_
            cases h
            exact x_wk (x_le_s (x_le_s (x_le_s (x_le_s (x_le_s (x_le_n (x_le_n x_le_0))))))) (hG (_, _) rfl)
          · replace h := x_ifF hc h
            refine x_iconst 2177 rfl (v := 0) dL_law_2176 (by decide) ?_
            cases h
      · replace h := x_ifF hc h
        refine x_iconst 2160 rfl (v := 0) dL_law_2159 (by decide) ?_
        cases h
    replace h := x_ifF hc40 h
    refine x_case (41) (fun hc41 => ?_) (fun hc41 => ?_)
    · replace h := x_ifT hc41 h
      refine x_tabIn (off := 2141) 2181 dL_law_40 (by rw [hc41]; decide) (by rw [hc41]; decide) (by rw [hc41]; rfl) (by decide) ?_
      refine x_aload_n 2182 rfl 1 dL_law_2181 rfl rfl ?_
      obtain ⟨⟨q245r, q245s⟩, q245h, h⟩ := x_bind h
      try dsimp only at h
      refine z_callV E [] [] dL_law_2182 K_RL_248 ⟨Nat.le_of_ble_eq_true rfl, Nat.le_of_ble_eq_true rfl⟩ sh_0 (by decide) rfl (c_RH_image_0 E  q245h) rfl rfl (Nat.le_of_ble_eq_true rfl) 2185 rfl [] rfl ?_
      refine x_aload_n 2186 rfl 2 dL_law_2185 rfl rfl ?_
      obtain ⟨⟨q246r, q246s⟩, q246h, h⟩ := x_bind h
      try dsimp only at h
      refine z_callV E [] [] dL_law_2186 K_RL_251 ⟨Nat.le_of_ble_eq_true rfl, Nat.le_of_ble_eq_true rfl⟩ sh_60 (by decide) rfl (c_Mo_image_60 E  q246h) rfl rfl (Nat.le_of_ble_eq_true rfl) 2189 rfl [] rfl ?_
      refine x_goto 2205 dL_law_2189 (by decide) ?_
      refine x_iinc 2208 rfl (6) dL_law_2205 rfl (by decide) (by decide) [some (.ref 1500), some (.ref 0), some (.ref 60), some (.ref 96), some (.int _), none, none] rfl ?_
      refine x_goto 23 dL_law_2208 (by decide) ?_
      cases h
      exact x_wk (x_le_s (x_le_s (x_le_s (x_le_s (x_le_s (x_le_n (x_le_n x_le_0))))))) (x_less (Nat.le_succ _) (Nat.le_add_right _ _) (hG (_, _) rfl))
    replace h := x_ifF hc41 h
    refine x_case (42) (fun hc42 => ?_) (fun hc42 => ?_)
    · replace h := x_ifT hc42 h
      refine x_tabIn (off := 2152) 2192 dL_law_40 (by rw [hc42]; decide) (by rw [hc42]; decide) (by rw [hc42]; rfl) (by decide) ?_
      refine x_aload_n 2193 rfl 1 dL_law_2192 rfl rfl ?_
      obtain ⟨⟨q248r, q248s⟩, q248h, h⟩ := x_bind h
      try dsimp only at h
      refine z_callV E [] [] dL_law_2193 K_RL_252 ⟨Nat.le_of_ble_eq_true rfl, Nat.le_of_ble_eq_true rfl⟩ sh_0 (by decide) rfl (c_RH_restore_0 E  q248h) rfl rfl (Nat.le_of_ble_eq_true rfl) 2196 rfl [.int _] rfl ?_
      refine x_aload_n 2197 rfl 2 dL_law_2196 rfl rfl ?_
      obtain ⟨⟨q249r, q249s⟩, q249h, h⟩ := x_bind h
      try dsimp only at h
      refine z_callV E [] [.int _] dL_law_2197 K_RL_256 ⟨Nat.le_of_ble_eq_true rfl, Nat.le_of_ble_eq_true rfl⟩ sh_60 (by decide) rfl (c_Mo_restore_60 E  q249h) rfl rfl (Nat.le_of_ble_eq_true rfl) 2200 rfl [.int _, .int _] rfl ?_
      refine x_icmp_eq 2203 rfl 2205 dL_law_2200 (by decide) (fun hc => ?_) (fun hc => ?_)
      · replace h := x_ifT hc h
        refine x_iinc 2208 rfl (6) dL_law_2205 rfl (by decide) (by decide) [some (.ref 1500), some (.ref 0), some (.ref 60), some (.ref 96), some (.int _), none, none] rfl ?_
        refine x_goto 23 dL_law_2208 (by decide) ?_
        cases h
        exact x_wk (x_le_s (x_le_s (x_le_s (x_le_s (x_le_s (x_le_n (x_le_n x_le_0))))))) (x_less (Nat.le_succ _) (Nat.le_add_right _ _) (hG (_, _) rfl))
      · replace h := x_ifF hc h
        refine x_iconst 2204 rfl (v := 0) dL_law_2203 (by decide) ?_
        cases h
    replace h := x_ifF hc42 h
    refine x_tabOut 2205 dL_law_40 (by have g0 := x_toNe hc0 (k := 0) (by decide); have g1 := x_toNe hc1 (k := 1) (by decide); have g2 := x_toNe hc2 (k := 2) (by decide); have g3 := x_toNe hc3 (k := 3) (by decide); have g4 := x_toNe hc4 (k := 4) (by decide); have g5 := x_toNe hc5 (k := 5) (by decide); have g6 := x_toNe hc6 (k := 6) (by decide); have g7 := x_toNe hc7 (k := 7) (by decide); have g8 := x_toNe hc8 (k := 8) (by decide); have g9 := x_toNe hc9 (k := 9) (by decide); have g10 := x_toNe hc10 (k := 10) (by decide); have g11 := x_toNe hc11 (k := 11) (by decide); have g12 := x_toNe hc12 (k := 12) (by decide); have g13 := x_toNe hc13 (k := 13) (by decide); have g14 := x_toNe hc14 (k := 14) (by decide); have g15 := x_toNe hc15 (k := 15) (by decide); have g16 := x_toNe hc16 (k := 16) (by decide); have g17 := x_toNe hc17 (k := 17) (by decide); have g18 := x_toNe hc18 (k := 18) (by decide); have g19 := x_toNe hc19 (k := 19) (by decide); have g20 := x_toNe hc20 (k := 20) (by decide); have g21 := x_toNe hc21 (k := 21) (by decide); have g22 := x_toNe hc22 (k := 22) (by decide); have g23 := x_toNe hc23 (k := 23) (by decide); have g24 := x_toNe hc24 (k := 24) (by decide); have g25 := x_toNe hc25 (k := 25) (by decide); have g26 := x_toNe hc26 (k := 26) (by decide); have g27 := x_toNe hc27 (k := 27) (by decide); have g28 := x_toNe hc28 (k := 28) (by decide); have g29 := x_toNe hc29 (k := 29) (by decide); have g30 := x_toNe hc30 (k := 30) (by decide); have g31 := x_toNe hc31 (k := 31) (by decide); have g32 := x_toNe hc32 (k := 32) (by decide); have g33 := x_toNe hc33 (k := 33) (by decide); have g34 := x_toNe hc34 (k := 34) (by decide); have g35 := x_toNe hc35 (k := 35) (by decide); have g36 := x_toNe hc36 (k := 36) (by decide); have g37 := x_toNe hc37 (k := 37) (by decide); have g38 := x_toNe hc38 (k := 38) (by decide); have g39 := x_toNe hc39 (k := 39) (by decide); have g40 := x_toNe hc40 (k := 40) (by decide); have g41 := x_toNe hc41 (k := 41) (by decide); have g42 := x_toNe hc42 (k := 42) (by decide); omega) (by decide) ?_
    refine x_iinc 2208 rfl (6) dL_law_2205 rfl (by decide) (by decide) [some (.ref 1500), some (.ref 0), some (.ref 60), some (.ref 96), some (.int _), none, none] rfl ?_
    refine x_goto 23 dL_law_2208 (by decide) ?_
    cases h
    exact x_wk (x_le_s (x_le_s (x_le_s (x_le_s (x_le_s (x_le_n (x_le_n x_le_0))))))) (x_less (Nat.le_succ _) (Nat.le_add_right _ _) (hG (_, _) rfl))
