/-! words of the law -/
theorem q419 : (.methodLink RL 13 yX9_set : Cond) ∈ gtb := gtb_t2 39 rfl rfl
theorem q420 : (.instanceMethod yX9_set : Cond) ∈ gtb := gtb_t2 40 rfl rfl
theorem q421 : (.selects RX9 yX9_set yX9_set : Cond) ∈ gtb := gtb_t2 41 rfl rfl
theorem q422 : (.code yX9_set cX9_set 3 (some .boolean) : Cond) ∈ gtb := gtb_t2 42 rfl rfl
theorem q565 : (.methodLink RL 18 yX9_share : Cond) ∈ gtb := gtb_t2 185 rfl rfl
theorem q566 : (.instanceMethod yX9_share : Cond) ∈ gtb := gtb_t2 186 rfl rfl
theorem q567 : (.selects RX9 yX9_share yX9_share : Cond) ∈ gtb := gtb_t2 187 rfl rfl
theorem q568 : (.code yX9_share cX9_share 3 (some .boolean) : Cond) ∈ gtb := gtb_t2 188 rfl rfl
theorem q573 : (.methodLink RL 22 yX9_job : Cond) ∈ gtb := gtb_t2 193 rfl rfl
theorem q574 : (.instanceMethod yX9_job : Cond) ∈ gtb := gtb_t2 194 rfl rfl
theorem q575 : (.selects RX9 yX9_job yX9_job : Cond) ∈ gtb := gtb_t2 195 rfl rfl
theorem q576 : (.code yX9_job cX9_job 6 (some .int) : Cond) ∈ gtb := gtb_t2 196 rfl rfl
theorem q606 : (.methodLink RL 27 yX9_later : Cond) ∈ gtb := gtb_t2 226 rfl rfl
theorem q607 : (.instanceMethod yX9_later : Cond) ∈ gtb := gtb_t2 227 rfl rfl
theorem q608 : (.selects RX9 yX9_later yX9_later : Cond) ∈ gtb := gtb_t2 228 rfl rfl
theorem q609 : (.code yX9_later cX9_later 5 (some .int) : Cond) ∈ gtb := gtb_t2 229 rfl rfl
theorem q615 : (.methodLink RL 31 yX9_kill : Cond) ∈ gtb := gtb_t2 235 rfl rfl
theorem q616 : (.instanceMethod yX9_kill : Cond) ∈ gtb := gtb_t2 236 rfl rfl
theorem q617 : (.selects RX9 yX9_kill yX9_kill : Cond) ∈ gtb := gtb_t2 237 rfl rfl
theorem q618 : (.code yX9_kill cX9_kill 3 (some .int) : Cond) ∈ gtb := gtb_t2 238 rfl rfl
theorem q649 : (.methodLink RL 36 yX9_quantum : Cond) ∈ gtb := gtb_t3 29 rfl rfl
theorem q650 : (.instanceMethod yX9_quantum : Cond) ∈ gtb := gtb_t3 30 rfl rfl
theorem q651 : (.selects RX9 yX9_quantum yX9_quantum : Cond) ∈ gtb := gtb_t3 31 rfl rfl
theorem q652 : (.code yX9_quantum cX9_quantum 4 (some .int) : Cond) ∈ gtb := gtb_t3 32 rfl rfl
theorem q778 : (.methodLink RL 40 yX9_down : Cond) ∈ gtb := gtb_t3 158 rfl rfl
theorem q779 : (.instanceMethod yX9_down : Cond) ∈ gtb := gtb_t3 159 rfl rfl
theorem q780 : (.selects RX9 yX9_down yX9_down : Cond) ∈ gtb := gtb_t3 160 rfl rfl
theorem q781 : (.code yX9_down cX9_down 2 (some .boolean) : Cond) ∈ gtb := gtb_t3 161 rfl rfl
theorem q806 : (.methodLink RL 45 yX9_up : Cond) ∈ gtb := gtb_t3 186 rfl rfl
theorem q807 : (.instanceMethod yX9_up : Cond) ∈ gtb := gtb_t3 187 rfl rfl
theorem q808 : (.selects RX9 yX9_up yX9_up : Cond) ∈ gtb := gtb_t3 188 rfl rfl
theorem q809 : (.code yX9_up cX9_up 2 (some .boolean) : Cond) ∈ gtb := gtb_t3 189 rfl rfl
theorem q810 : (.methodLink RL 49 yX9_unify : Cond) ∈ gtb := gtb_t3 190 rfl rfl
theorem q811 : (.instanceMethod yX9_unify : Cond) ∈ gtb := gtb_t3 191 rfl rfl
theorem q812 : (.selects RX9 yX9_unify yX9_unify : Cond) ∈ gtb := gtb_t3 192 rfl rfl
theorem q813 : (.code yX9_unify cX9_unify 2 (some .int) : Cond) ∈ gtb := gtb_t3 193 rfl rfl
theorem q815 : (.methodLink RL 54 yX9_repack : Cond) ∈ gtb := gtb_t3 195 rfl rfl
theorem q816 : (.instanceMethod yX9_repack : Cond) ∈ gtb := gtb_t3 196 rfl rfl
theorem q817 : (.selects RX9 yX9_repack yX9_repack : Cond) ∈ gtb := gtb_t3 197 rfl rfl
theorem q818 : (.code yX9_repack cX9_repack 2 (some .int) : Cond) ∈ gtb := gtb_t3 198 rfl rfl
theorem q839 : (.methodLink RL 58 yX9_move : Cond) ∈ gtb := gtb_t3 219 rfl rfl
theorem q840 : (.instanceMethod yX9_move : Cond) ∈ gtb := gtb_t3 220 rfl rfl
theorem q841 : (.selects RX9 yX9_move yX9_move : Cond) ∈ gtb := gtb_t3 221 rfl rfl
theorem q842 : (.code yX9_move cX9_move 3 (some .boolean) : Cond) ∈ gtb := gtb_t3 222 rfl rfl
theorem q873 : (.methodLink RL 62 yX9_migrate : Cond) ∈ gtb := gtb_t4 13 rfl rfl
theorem q874 : (.instanceMethod yX9_migrate : Cond) ∈ gtb := gtb_t4 14 rfl rfl
theorem q875 : (.selects RX9 yX9_migrate yX9_migrate : Cond) ∈ gtb := gtb_t4 15 rfl rfl
theorem q876 : (.code yX9_migrate cX9_migrate 2 (some .boolean) : Cond) ∈ gtb := gtb_t4 16 rfl rfl
theorem q920 : (.methodLink RL 66 yX9_weigh : Cond) ∈ gtb := gtb_t4 60 rfl rfl
theorem q921 : (.instanceMethod yX9_weigh : Cond) ∈ gtb := gtb_t4 61 rfl rfl
theorem q922 : (.selects RX9 yX9_weigh yX9_weigh : Cond) ∈ gtb := gtb_t4 62 rfl rfl
theorem q923 : (.code yX9_weigh cX9_weigh 3 (some .int) : Cond) ∈ gtb := gtb_t4 63 rfl rfl
theorem q930 : (.methodLink RL 71 yX9_pack : Cond) ∈ gtb := gtb_t4 70 rfl rfl
theorem q931 : (.instanceMethod yX9_pack : Cond) ∈ gtb := gtb_t4 71 rfl rfl
theorem q932 : (.selects RX9 yX9_pack yX9_pack : Cond) ∈ gtb := gtb_t4 72 rfl rfl
theorem q933 : (.code yX9_pack cX9_pack 2 (some .int) : Cond) ∈ gtb := gtb_t4 73 rfl rfl
theorem q964 : (.methodLink RL 75 yX9_relay : Cond) ∈ gtb := gtb_t4 104 rfl rfl
theorem q965 : (.instanceMethod yX9_relay : Cond) ∈ gtb := gtb_t4 105 rfl rfl
theorem q966 : (.selects RX9 yX9_relay yX9_relay : Cond) ∈ gtb := gtb_t4 106 rfl rfl
theorem q967 : (.code yX9_relay cX9_relay 1 (some .boolean) : Cond) ∈ gtb := gtb_t4 107 rfl rfl
theorem q972 : (.methodLink RL 80 yX9_urge : Cond) ∈ gtb := gtb_t4 112 rfl rfl
theorem q973 : (.instanceMethod yX9_urge : Cond) ∈ gtb := gtb_t4 113 rfl rfl
theorem q974 : (.selects RX9 yX9_urge yX9_urge : Cond) ∈ gtb := gtb_t4 114 rfl rfl
theorem q975 : (.code yX9_urge cX9_urge 2 (some .boolean) : Cond) ∈ gtb := gtb_t4 115 rfl rfl
theorem q1003 : (.methodLink RL 84 yX9_urged : Cond) ∈ gtb := gtb_t4 143 rfl rfl
theorem q1004 : (.instanceMethod yX9_urged : Cond) ∈ gtb := gtb_t4 144 rfl rfl
theorem q1005 : (.selects RX9 yX9_urged yX9_urged : Cond) ∈ gtb := gtb_t4 145 rfl rfl
theorem q1006 : (.code yX9_urged cX9_urged 3 (some .int) : Cond) ∈ gtb := gtb_t4 146 rfl rfl
theorem q1011 : (.methodLink RL 88 yX9_thin : Cond) ∈ gtb := gtb_t4 151 rfl rfl
theorem q1012 : (.instanceMethod yX9_thin : Cond) ∈ gtb := gtb_t4 152 rfl rfl
theorem q1013 : (.selects RX9 yX9_thin yX9_thin : Cond) ∈ gtb := gtb_t4 153 rfl rfl
theorem q1014 : (.code yX9_thin cX9_thin 2 (some .int) : Cond) ∈ gtb := gtb_t4 154 rfl rfl
theorem q1036 : (.methodLink RL 92 yX9_where : Cond) ∈ gtb := gtb_t4 176 rfl rfl
theorem q1037 : (.instanceMethod yX9_where : Cond) ∈ gtb := gtb_t4 177 rfl rfl
theorem q1038 : (.selects RX9 yX9_where yX9_where : Cond) ∈ gtb := gtb_t4 178 rfl rfl
theorem q1039 : (.code yX9_where cX9_where 4 (some .int) : Cond) ∈ gtb := gtb_t4 179 rfl rfl
theorem q1045 : (.methodLink RL 96 yX9_free : Cond) ∈ gtb := gtb_t4 185 rfl rfl
theorem q1046 : (.instanceMethod yX9_free : Cond) ∈ gtb := gtb_t4 186 rfl rfl
theorem q1047 : (.selects RX9 yX9_free yX9_free : Cond) ∈ gtb := gtb_t4 187 rfl rfl
theorem q1048 : (.code yX9_free cX9_free 6 (some .int) : Cond) ∈ gtb := gtb_t4 188 rfl rfl
theorem q1054 : (.methodLink RL 101 yX9_cell : Cond) ∈ gtb := gtb_t4 194 rfl rfl
theorem q1055 : (.instanceMethod yX9_cell : Cond) ∈ gtb := gtb_t4 195 rfl rfl
theorem q1056 : (.selects RX9 yX9_cell yX9_cell : Cond) ∈ gtb := gtb_t4 196 rfl rfl
theorem q1057 : (.code yX9_cell cX9_cell 3 (some .int) : Cond) ∈ gtb := gtb_t4 197 rfl rfl
theorem q1063 : (.methodLink RL 105 yX9_load : Cond) ∈ gtb := gtb_t4 203 rfl rfl
theorem q1064 : (.instanceMethod yX9_load : Cond) ∈ gtb := gtb_t4 204 rfl rfl
theorem q1065 : (.selects RX9 yX9_load yX9_load : Cond) ∈ gtb := gtb_t4 205 rfl rfl
theorem q1066 : (.code yX9_load cX9_load 2 (some .int) : Cond) ∈ gtb := gtb_t4 206 rfl rfl
theorem q1068 : (.methodLink RL 109 yX9_of : Cond) ∈ gtb := gtb_t4 208 rfl rfl
theorem q1069 : (.instanceMethod yX9_of : Cond) ∈ gtb := gtb_t4 209 rfl rfl
theorem q1070 : (.selects RX9 yX9_of yX9_of : Cond) ∈ gtb := gtb_t4 210 rfl rfl
theorem q1071 : (.code yX9_of cX9_of 3 (some .int) : Cond) ∈ gtb := gtb_t4 211 rfl rfl
theorem q1072 : (.methodLink RL 113 yX9_user : Cond) ∈ gtb := gtb_t4 212 rfl rfl
theorem q1073 : (.instanceMethod yX9_user : Cond) ∈ gtb := gtb_t4 213 rfl rfl
theorem q1074 : (.selects RX9 yX9_user yX9_user : Cond) ∈ gtb := gtb_t4 214 rfl rfl
theorem q1075 : (.code yX9_user cX9_user 3 (some .int) : Cond) ∈ gtb := gtb_t4 215 rfl rfl
theorem q1089 : (.methodLink RL 117 yX9_slot : Cond) ∈ gtb := gtb_t4 229 rfl rfl
theorem q1090 : (.instanceMethod yX9_slot : Cond) ∈ gtb := gtb_t4 230 rfl rfl
theorem q1091 : (.selects RX9 yX9_slot yX9_slot : Cond) ∈ gtb := gtb_t4 231 rfl rfl
theorem q1092 : (.code yX9_slot cX9_slot 3 (some .int) : Cond) ∈ gtb := gtb_t4 232 rfl rfl
theorem q1100 : (.methodLink RL 121 yX9_queue : Cond) ∈ gtb := gtb_t5 0 rfl rfl
theorem q1101 : (.instanceMethod yX9_queue : Cond) ∈ gtb := gtb_t5 1 rfl rfl
theorem q1102 : (.selects RX9 yX9_queue yX9_queue : Cond) ∈ gtb := gtb_t5 2 rfl rfl
theorem q1103 : (.code yX9_queue cX9_queue 3 (some .int) : Cond) ∈ gtb := gtb_t5 3 rfl rfl
theorem q1105 : (.methodLink RL 125 yX9_lends : Cond) ∈ gtb := gtb_t5 5 rfl rfl
theorem q1106 : (.instanceMethod yX9_lends : Cond) ∈ gtb := gtb_t5 6 rfl rfl
theorem q1107 : (.selects RX9 yX9_lends yX9_lends : Cond) ∈ gtb := gtb_t5 7 rfl rfl
theorem q1108 : (.code yX9_lends cX9_lends 3 (some .int) : Cond) ∈ gtb := gtb_t5 8 rfl rfl
theorem q1114 : (.methodLink RL 129 yX9_would : Cond) ∈ gtb := gtb_t5 14 rfl rfl
theorem q1115 : (.instanceMethod yX9_would : Cond) ∈ gtb := gtb_t5 15 rfl rfl
theorem q1116 : (.selects RX9 yX9_would yX9_would : Cond) ∈ gtb := gtb_t5 16 rfl rfl
theorem q1117 : (.code yX9_would cX9_would 4 (some .int) : Cond) ∈ gtb := gtb_t5 17 rfl rfl
theorem q1152 : (.methodLink RL 133 yX9_when : Cond) ∈ gtb := gtb_t5 52 rfl rfl
theorem q1153 : (.instanceMethod yX9_when : Cond) ∈ gtb := gtb_t5 53 rfl rfl
theorem q1154 : (.selects RX9 yX9_when yX9_when : Cond) ∈ gtb := gtb_t5 54 rfl rfl
theorem q1155 : (.code yX9_when cX9_when 3 (some .int) : Cond) ∈ gtb := gtb_t5 55 rfl rfl
theorem q1156 : (.methodLink RL 137 yX9_log : Cond) ∈ gtb := gtb_t5 56 rfl rfl
theorem q1157 : (.instanceMethod yX9_log : Cond) ∈ gtb := gtb_t5 57 rfl rfl
theorem q1158 : (.selects RX9 yX9_log yX9_log : Cond) ∈ gtb := gtb_t5 58 rfl rfl
theorem q1159 : (.code yX9_log cX9_log 3 (some .int) : Cond) ∈ gtb := gtb_t5 59 rfl rfl
theorem q1165 : (.methodLink RL 141 yX9_went : Cond) ∈ gtb := gtb_t5 65 rfl rfl
theorem q1166 : (.instanceMethod yX9_went : Cond) ∈ gtb := gtb_t5 66 rfl rfl
theorem q1167 : (.selects RX9 yX9_went yX9_went : Cond) ∈ gtb := gtb_t5 67 rfl rfl
theorem q1168 : (.code yX9_went cX9_went 3 (some .int) : Cond) ∈ gtb := gtb_t5 68 rfl rfl
theorem q1169 : (.methodLink RL 145 yX9_count : Cond) ∈ gtb := gtb_t5 69 rfl rfl
theorem q1170 : (.instanceMethod yX9_count : Cond) ∈ gtb := gtb_t5 70 rfl rfl
theorem q1171 : (.selects RX9 yX9_count yX9_count : Cond) ∈ gtb := gtb_t5 71 rfl rfl
theorem q1172 : (.code yX9_count cX9_count 2 (some .int) : Cond) ∈ gtb := gtb_t5 72 rfl rfl
theorem q1173 : (.methodLink RL 149 yX9_image : Cond) ∈ gtb := gtb_t5 73 rfl rfl
theorem q1174 : (.instanceMethod yX9_image : Cond) ∈ gtb := gtb_t5 74 rfl rfl
theorem q1175 : (.selects RX9 yX9_image yX9_image : Cond) ∈ gtb := gtb_t5 75 rfl rfl
theorem q1176 : (.code yX9_image cX9_image 2 (some .boolean) : Cond) ∈ gtb := gtb_t5 76 rfl rfl
theorem q1177 : (.methodLink RL 154 yX9_look : Cond) ∈ gtb := gtb_t5 77 rfl rfl
theorem q1178 : (.instanceMethod yX9_look : Cond) ∈ gtb := gtb_t5 78 rfl rfl
theorem q1179 : (.selects RX9 yX9_look yX9_look : Cond) ∈ gtb := gtb_t5 79 rfl rfl
theorem q1180 : (.code yX9_look cX9_look 2 (some .int) : Cond) ∈ gtb := gtb_t5 80 rfl rfl
theorem q1281 : (.methodLink RL 17 yX10_set : Cond) ∈ gtb := gtb_t5 181 rfl rfl
theorem q1282 : (.instanceMethod yX10_set : Cond) ∈ gtb := gtb_t5 182 rfl rfl
theorem q1283 : (.selects RX10 yX10_set yX10_set : Cond) ∈ gtb := gtb_t5 183 rfl rfl
theorem q1284 : (.code yX10_set cX10_set 3 (some .boolean) : Cond) ∈ gtb := gtb_t5 184 rfl rfl
theorem q1421 : (.methodLink RL 21 yX10_share : Cond) ∈ gtb := gtb_t6 81 rfl rfl
theorem q1422 : (.instanceMethod yX10_share : Cond) ∈ gtb := gtb_t6 82 rfl rfl
theorem q1423 : (.selects RX10 yX10_share yX10_share : Cond) ∈ gtb := gtb_t6 83 rfl rfl
theorem q1424 : (.code yX10_share cX10_share 3 (some .boolean) : Cond) ∈ gtb := gtb_t6 84 rfl rfl
theorem q1429 : (.methodLink RL 95 yX10_where : Cond) ∈ gtb := gtb_t6 89 rfl rfl
theorem q1430 : (.instanceMethod yX10_where : Cond) ∈ gtb := gtb_t6 90 rfl rfl
theorem q1431 : (.selects RX10 yX10_where yX10_where : Cond) ∈ gtb := gtb_t6 91 rfl rfl
theorem q1432 : (.code yX10_where cX10_where 3 (some .int) : Cond) ∈ gtb := gtb_t6 92 rfl rfl
theorem q1437 : (.methodLink RL 124 yX10_queue : Cond) ∈ gtb := gtb_t6 97 rfl rfl
theorem q1438 : (.instanceMethod yX10_queue : Cond) ∈ gtb := gtb_t6 98 rfl rfl
theorem q1439 : (.selects RX10 yX10_queue yX10_queue : Cond) ∈ gtb := gtb_t6 99 rfl rfl
theorem q1440 : (.code yX10_queue cX10_queue 2 (some .int) : Cond) ∈ gtb := gtb_t6 100 rfl rfl
theorem q1441 : (.methodLink RL 26 yX10_job : Cond) ∈ gtb := gtb_t6 101 rfl rfl
theorem q1442 : (.instanceMethod yX10_job : Cond) ∈ gtb := gtb_t6 102 rfl rfl
theorem q1443 : (.selects RX10 yX10_job yX10_job : Cond) ∈ gtb := gtb_t6 103 rfl rfl
theorem q1444 : (.code yX10_job cX10_job 6 (some .int) : Cond) ∈ gtb := gtb_t6 104 rfl rfl
theorem q1461 : (.methodLink RL 30 yX10_later : Cond) ∈ gtb := gtb_t6 121 rfl rfl
theorem q1462 : (.instanceMethod yX10_later : Cond) ∈ gtb := gtb_t6 122 rfl rfl
theorem q1463 : (.selects RX10 yX10_later yX10_later : Cond) ∈ gtb := gtb_t6 123 rfl rfl
theorem q1464 : (.code yX10_later cX10_later 6 (some .int) : Cond) ∈ gtb := gtb_t6 124 rfl rfl
theorem q1470 : (.methodLink RL 35 yX10_kill : Cond) ∈ gtb := gtb_t6 130 rfl rfl
theorem q1471 : (.instanceMethod yX10_kill : Cond) ∈ gtb := gtb_t6 131 rfl rfl
theorem q1472 : (.selects RX10 yX10_kill yX10_kill : Cond) ∈ gtb := gtb_t6 132 rfl rfl
theorem q1473 : (.code yX10_kill cX10_kill 3 (some .int) : Cond) ∈ gtb := gtb_t6 133 rfl rfl
theorem q1494 : (.methodLink RL 44 yX10_down : Cond) ∈ gtb := gtb_t6 154 rfl rfl
theorem q1495 : (.instanceMethod yX10_down : Cond) ∈ gtb := gtb_t6 155 rfl rfl
theorem q1496 : (.selects RX10 yX10_down yX10_down : Cond) ∈ gtb := gtb_t6 156 rfl rfl
theorem q1497 : (.code yX10_down cX10_down 3 (some .boolean) : Cond) ∈ gtb := gtb_t6 157 rfl rfl
theorem q1510 : (.methodLink RL 48 yX10_up : Cond) ∈ gtb := gtb_t6 170 rfl rfl
theorem q1511 : (.instanceMethod yX10_up : Cond) ∈ gtb := gtb_t6 171 rfl rfl
theorem q1512 : (.selects RX10 yX10_up yX10_up : Cond) ∈ gtb := gtb_t6 172 rfl rfl
theorem q1513 : (.code yX10_up cX10_up 2 (some .boolean) : Cond) ∈ gtb := gtb_t6 173 rfl rfl
theorem q1514 : (.methodLink RL 53 yX10_unify : Cond) ∈ gtb := gtb_t6 174 rfl rfl
theorem q1515 : (.instanceMethod yX10_unify : Cond) ∈ gtb := gtb_t6 175 rfl rfl
theorem q1516 : (.selects RX10 yX10_unify yX10_unify : Cond) ∈ gtb := gtb_t6 176 rfl rfl
theorem q1517 : (.code yX10_unify cX10_unify 2 (some .int) : Cond) ∈ gtb := gtb_t6 177 rfl rfl
theorem q1526 : (.methodLink RL 57 yX10_repack : Cond) ∈ gtb := gtb_t6 186 rfl rfl
theorem q1527 : (.instanceMethod yX10_repack : Cond) ∈ gtb := gtb_t6 187 rfl rfl
theorem q1528 : (.selects RX10 yX10_repack yX10_repack : Cond) ∈ gtb := gtb_t6 188 rfl rfl
theorem q1529 : (.code yX10_repack cX10_repack 2 (some .int) : Cond) ∈ gtb := gtb_t6 189 rfl rfl
theorem q1542 : (.methodLink RL 61 yX10_move : Cond) ∈ gtb := gtb_t6 202 rfl rfl
theorem q1543 : (.instanceMethod yX10_move : Cond) ∈ gtb := gtb_t6 203 rfl rfl
theorem q1544 : (.selects RX10 yX10_move yX10_move : Cond) ∈ gtb := gtb_t6 204 rfl rfl
theorem q1545 : (.code yX10_move cX10_move 7 (some .boolean) : Cond) ∈ gtb := gtb_t6 205 rfl rfl
theorem q1558 : (.methodLink RL 70 yX10_weigh : Cond) ∈ gtb := gtb_t6 218 rfl rfl
theorem q1559 : (.instanceMethod yX10_weigh : Cond) ∈ gtb := gtb_t6 219 rfl rfl
theorem q1560 : (.selects RX10 yX10_weigh yX10_weigh : Cond) ∈ gtb := gtb_t6 220 rfl rfl
theorem q1561 : (.code yX10_weigh cX10_weigh 3 (some .int) : Cond) ∈ gtb := gtb_t6 221 rfl rfl
theorem q1591 : (.methodLink RL 65 yX10_migrate : Cond) ∈ gtb := gtb_t7 11 rfl rfl
theorem q1592 : (.instanceMethod yX10_migrate : Cond) ∈ gtb := gtb_t7 12 rfl rfl
theorem q1593 : (.selects RX10 yX10_migrate yX10_migrate : Cond) ∈ gtb := gtb_t7 13 rfl rfl
theorem q1594 : (.code yX10_migrate cX10_migrate 2 (some .boolean) : Cond) ∈ gtb := gtb_t7 14 rfl rfl
theorem q1595 : (.methodLink RL 74 yX10_pack : Cond) ∈ gtb := gtb_t7 15 rfl rfl
theorem q1596 : (.instanceMethod yX10_pack : Cond) ∈ gtb := gtb_t7 16 rfl rfl
theorem q1597 : (.selects RX10 yX10_pack yX10_pack : Cond) ∈ gtb := gtb_t7 17 rfl rfl
theorem q1598 : (.code yX10_pack cX10_pack 2 (some .int) : Cond) ∈ gtb := gtb_t7 18 rfl rfl
theorem q1615 : (.methodLink RL 79 yX10_relay : Cond) ∈ gtb := gtb_t7 35 rfl rfl
theorem q1616 : (.instanceMethod yX10_relay : Cond) ∈ gtb := gtb_t7 36 rfl rfl
theorem q1617 : (.selects RX10 yX10_relay yX10_relay : Cond) ∈ gtb := gtb_t7 37 rfl rfl
theorem q1618 : (.code yX10_relay cX10_relay 2 (some .boolean) : Cond) ∈ gtb := gtb_t7 38 rfl rfl
theorem q1619 : (.methodLink RL 87 yX10_urged : Cond) ∈ gtb := gtb_t7 39 rfl rfl
theorem q1620 : (.instanceMethod yX10_urged : Cond) ∈ gtb := gtb_t7 40 rfl rfl
theorem q1621 : (.selects RX10 yX10_urged yX10_urged : Cond) ∈ gtb := gtb_t7 41 rfl rfl
theorem q1622 : (.code yX10_urged cX10_urged 3 (some .int) : Cond) ∈ gtb := gtb_t7 42 rfl rfl
theorem q1635 : (.methodLink RL 83 yX10_urge : Cond) ∈ gtb := gtb_t7 55 rfl rfl
theorem q1636 : (.instanceMethod yX10_urge : Cond) ∈ gtb := gtb_t7 56 rfl rfl
theorem q1637 : (.selects RX10 yX10_urge yX10_urge : Cond) ∈ gtb := gtb_t7 57 rfl rfl
theorem q1638 : (.code yX10_urge cX10_urge 4 (some .boolean) : Cond) ∈ gtb := gtb_t7 58 rfl rfl
theorem q1639 : (.methodLink RL 91 yX10_thin : Cond) ∈ gtb := gtb_t7 59 rfl rfl
theorem q1640 : (.instanceMethod yX10_thin : Cond) ∈ gtb := gtb_t7 60 rfl rfl
theorem q1641 : (.selects RX10 yX10_thin yX10_thin : Cond) ∈ gtb := gtb_t7 61 rfl rfl
theorem q1642 : (.code yX10_thin cX10_thin 2 (some .int) : Cond) ∈ gtb := gtb_t7 62 rfl rfl
theorem q1655 : (.methodLink RL 128 yX10_lends : Cond) ∈ gtb := gtb_t7 75 rfl rfl
theorem q1656 : (.instanceMethod yX10_lends : Cond) ∈ gtb := gtb_t7 76 rfl rfl
theorem q1657 : (.selects RX10 yX10_lends yX10_lends : Cond) ∈ gtb := gtb_t7 77 rfl rfl
theorem q1658 : (.code yX10_lends cX10_lends 3 (some .int) : Cond) ∈ gtb := gtb_t7 78 rfl rfl
theorem q1671 : (.methodLink RL 39 yX10_quantum : Cond) ∈ gtb := gtb_t7 91 rfl rfl
theorem q1672 : (.instanceMethod yX10_quantum : Cond) ∈ gtb := gtb_t7 92 rfl rfl
theorem q1673 : (.selects RX10 yX10_quantum yX10_quantum : Cond) ∈ gtb := gtb_t7 93 rfl rfl
theorem q1674 : (.code yX10_quantum cX10_quantum 2 (some .int) : Cond) ∈ gtb := gtb_t7 94 rfl rfl
theorem q1716 : (.methodLink RL 132 yX10_would : Cond) ∈ gtb := gtb_t7 136 rfl rfl
theorem q1717 : (.instanceMethod yX10_would : Cond) ∈ gtb := gtb_t7 137 rfl rfl
theorem q1718 : (.selects RX10 yX10_would yX10_would : Cond) ∈ gtb := gtb_t7 138 rfl rfl
theorem q1719 : (.code yX10_would cX10_would 6 (some .int) : Cond) ∈ gtb := gtb_t7 139 rfl rfl
theorem q1732 : (.methodLink RL 136 yX10_when : Cond) ∈ gtb := gtb_t7 152 rfl rfl
theorem q1733 : (.instanceMethod yX10_when : Cond) ∈ gtb := gtb_t7 153 rfl rfl
theorem q1734 : (.selects RX10 yX10_when yX10_when : Cond) ∈ gtb := gtb_t7 154 rfl rfl
theorem q1735 : (.code yX10_when cX10_when 3 (some .int) : Cond) ∈ gtb := gtb_t7 155 rfl rfl
theorem q1736 : (.methodLink RL 100 yX10_free : Cond) ∈ gtb := gtb_t7 156 rfl rfl
theorem q1737 : (.instanceMethod yX10_free : Cond) ∈ gtb := gtb_t7 157 rfl rfl
theorem q1738 : (.selects RX10 yX10_free yX10_free : Cond) ∈ gtb := gtb_t7 158 rfl rfl
theorem q1739 : (.code yX10_free cX10_free 7 (some .int) : Cond) ∈ gtb := gtb_t7 159 rfl rfl
theorem q1740 : (.methodLink RL 104 yX10_cell : Cond) ∈ gtb := gtb_t7 160 rfl rfl
theorem q1741 : (.instanceMethod yX10_cell : Cond) ∈ gtb := gtb_t7 161 rfl rfl
theorem q1742 : (.selects RX10 yX10_cell yX10_cell : Cond) ∈ gtb := gtb_t7 162 rfl rfl
theorem q1743 : (.code yX10_cell cX10_cell 4 (some .int) : Cond) ∈ gtb := gtb_t7 163 rfl rfl
theorem q1744 : (.methodLink RL 108 yX10_load : Cond) ∈ gtb := gtb_t7 164 rfl rfl
theorem q1745 : (.instanceMethod yX10_load : Cond) ∈ gtb := gtb_t7 165 rfl rfl
theorem q1746 : (.selects RX10 yX10_load yX10_load : Cond) ∈ gtb := gtb_t7 166 rfl rfl
theorem q1747 : (.code yX10_load cX10_load 2 (some .int) : Cond) ∈ gtb := gtb_t7 167 rfl rfl
theorem q1748 : (.methodLink RL 112 yX10_of : Cond) ∈ gtb := gtb_t7 168 rfl rfl
theorem q1749 : (.instanceMethod yX10_of : Cond) ∈ gtb := gtb_t7 169 rfl rfl
theorem q1750 : (.selects RX10 yX10_of yX10_of : Cond) ∈ gtb := gtb_t7 170 rfl rfl
theorem q1751 : (.code yX10_of cX10_of 4 (some .int) : Cond) ∈ gtb := gtb_t7 171 rfl rfl
theorem q1752 : (.methodLink RL 116 yX10_user : Cond) ∈ gtb := gtb_t7 172 rfl rfl
theorem q1753 : (.instanceMethod yX10_user : Cond) ∈ gtb := gtb_t7 173 rfl rfl
theorem q1754 : (.selects RX10 yX10_user yX10_user : Cond) ∈ gtb := gtb_t7 174 rfl rfl
theorem q1755 : (.code yX10_user cX10_user 3 (some .int) : Cond) ∈ gtb := gtb_t7 175 rfl rfl
theorem q1773 : (.methodLink RL 120 yX10_slot : Cond) ∈ gtb := gtb_t7 193 rfl rfl
theorem q1774 : (.instanceMethod yX10_slot : Cond) ∈ gtb := gtb_t7 194 rfl rfl
theorem q1775 : (.selects RX10 yX10_slot yX10_slot : Cond) ∈ gtb := gtb_t7 195 rfl rfl
theorem q1776 : (.code yX10_slot cX10_slot 3 (some .int) : Cond) ∈ gtb := gtb_t7 196 rfl rfl
theorem q1777 : (.methodLink RL 140 yX10_log : Cond) ∈ gtb := gtb_t7 197 rfl rfl
theorem q1778 : (.instanceMethod yX10_log : Cond) ∈ gtb := gtb_t7 198 rfl rfl
theorem q1779 : (.selects RX10 yX10_log yX10_log : Cond) ∈ gtb := gtb_t7 199 rfl rfl
theorem q1780 : (.code yX10_log cX10_log 4 (some .int) : Cond) ∈ gtb := gtb_t7 200 rfl rfl
theorem q1785 : (.methodLink RL 144 yX10_went : Cond) ∈ gtb := gtb_t7 205 rfl rfl
theorem q1786 : (.instanceMethod yX10_went : Cond) ∈ gtb := gtb_t7 206 rfl rfl
theorem q1787 : (.selects RX10 yX10_went yX10_went : Cond) ∈ gtb := gtb_t7 207 rfl rfl
theorem q1788 : (.code yX10_went cX10_went 4 (some .int) : Cond) ∈ gtb := gtb_t7 208 rfl rfl
theorem q1789 : (.methodLink RL 148 yX10_count : Cond) ∈ gtb := gtb_t7 209 rfl rfl
theorem q1790 : (.instanceMethod yX10_count : Cond) ∈ gtb := gtb_t7 210 rfl rfl
theorem q1791 : (.selects RX10 yX10_count yX10_count : Cond) ∈ gtb := gtb_t7 211 rfl rfl
theorem q1792 : (.code yX10_count cX10_count 2 (some .int) : Cond) ∈ gtb := gtb_t7 212 rfl rfl
theorem q1793 : (.methodLink RL 157 yX10_look : Cond) ∈ gtb := gtb_t7 213 rfl rfl
theorem q1794 : (.instanceMethod yX10_look : Cond) ∈ gtb := gtb_t7 214 rfl rfl
theorem q1795 : (.selects RX10 yX10_look yX10_look : Cond) ∈ gtb := gtb_t7 215 rfl rfl
theorem q1796 : (.code yX10_look cX10_look 2 (some .int) : Cond) ∈ gtb := gtb_t7 216 rfl rfl
theorem q1801 : (.methodLink RL 153 yX10_image : Cond) ∈ gtb := gtb_t7 221 rfl rfl
theorem q1802 : (.instanceMethod yX10_image : Cond) ∈ gtb := gtb_t7 222 rfl rfl
theorem q1803 : (.selects RX10 yX10_image yX10_image : Cond) ∈ gtb := gtb_t7 223 rfl rfl
theorem q1804 : (.code yX10_image cX10_image 3 (some .boolean) : Cond) ∈ gtb := gtb_t7 224 rfl rfl
/-! THE CLAIM OUT OF ONE WALK OF THE LAW'S BODY. Your part is whole_start (and what it stands on); all else here is the same for every law, but numbers. -/
def R_law : String := "GangMatrixLaw"
def lw_P (b : Addr) (xs : List Int32) (args : Array Value) (s : State) : Prop := args = #[.ref b] ∧ s.IntsAt b xs ∧ xs.length ≤ 2560 ∧ (Jvm.Cond.and given_1 narrow_1).before args s = true
def lw_Q (_ : Array Value) (s : State) (o : Outcome) (t : State) : Prop := o = .returned (some (.int 1)) ∧ Framed s o t [] 600000 7302250
def lw_Z (below : List Frame) (a : Array Value) (s : State) : State → Prop := fun t => ∃ o, t.status = .running ∧ Ended t below o ∧ lw_Q a s o t
/-- the law's own end, with 1 on the stack, nothing written that was there before, its room as the claim has it -/
theorem lw_ret {p : Program} {l : Launch} {e : Env} {s : State} {m : MethodId} {below : List Frame} {meth : Method} {c : Code} {b : Nat} (hx : p.tables.exec = Jvm.exec) (hb : c.code = code) (hr : meth.sig.returnType = ret) (hlocks : meth.locks = false) {pc : Nat} {H : Heap} {ls : Array Slot} (hdg : decode code pc = .ok (.ireturn, 1)) : W p l e room_1 s m #[Value.ref b] below meth c H [] 600000 7302250 (lw_Z below #[Value.ref b] s) (F0 m pc ls [.int 1]) := by
  intro T hT X
  obtain ⟨fs, hret, hrun, hended, hW, hframe⟩ := X.leave (v := some (.int 1)) (hlocks := hlocks) (fun h => by rw [hr] at h; cases h)
  have hmeth' : T.vm.method? m = some meth := X.method'
  refine ⟨T.setFrames fs, ?_, .returned (some (.int 1)), hrun, hended, rfl, ⟨_, rfl⟩, hW, hframe⟩
  jvm_step X.here [X.here.top, hx, hb, hdg, hmeth', hr, ret, narrow_b1]
  (try refine ⟨rfl, ?_⟩); (try refine ⟨rfl, ?_⟩)
  first | (intro acts; rw [hret _ acts rfl rfl rfl]) | rw [hret _ _ rfl rfl rfl]
  exact Steps.refl _
/-- what holds at the law's entry: the machine, the code, the tables' words (any of lw_tbl by 'hts w (by decide +kernel)'), the script of L ints xs at the cell b, what the Statement gives of the start (any of its parts by flat_of_before) -/
def lw_At (p : Program) (s : State) (m : MethodId) (meth : Method) (c : Code) (b L : Nat) (xs : Nat → Int32) : Prop :=
  p.tables.exec = Jvm.exec ∧ c.code = code ∧ meth.sig.returnType = ret ∧ c.maxLocals = 4 ∧ s.vm.findClass R_law = some m.cls ∧ (∀ w ∈ lw_tbl, w.before #[Value.ref b] s = true) ∧ va_X b L xs s s.heap ∧ b < s.heap.size ∧ meth.locks = false ∧ (Jvm.Cond.and given_1 narrow_1).before #[Value.ref b] s = true
/-! the law's loop -/
/-- both worlds in one heap, at the law's own state -/
def LF (D : va_G) (τ : ClassId × ClassId × ClassId × ClassId) (a1 a2 : Nat → Nat) (s : State) : Prop :=
  va_K D gcl (gty (D, τ, LC, a1)) s ∧ gInj (D, τ, LC, a1) ∧ gInj (D, τ, LM, a2) ∧ gSt (D, τ, LC, a1) s s.heap ∧ gSt (D, τ, LM, a2) s s.heap ∧ (∀ c, c < 182 → s.heap.size ≤ a1 c) ∧ (∀ c, c < 17 → s.heap.size ≤ a2 c) ∧ ∀ c d, c < 182 → d < 17 → a1 c ≠ a2 d
def LW (D : va_G) (τ : ClassId × ClassId × ClassId × ClassId) (a1 a2 : Nat → Nat) (s : State) (μ ν : gMem) (H : Heap) (locs : List Loc) : Prop :=
  va_P D gcl (gW (D, τ, LC, a1) μ) H ∧ va_P D gcl (gW (D, τ, LM, a2) ν) H ∧ va_S (fun q => s.heap.size ≤ q) s.heap H locs
/-- a pair of calls answers alike, and keeps the relation -/
def oK (Rl : Nat → gMem → gMem → Prop) (f g : gF) (as : List Value) : Prop := ∀ k μ ν, k < 512 → Rl k μ ν → ∃ x μ' ν', f (.ref 177 :: as) μ = some (some (.int x), μ') ∧ g (.ref 0 :: as) ν = some (some (.int x), ν') ∧ Rl (k + 1) μ' ν'
theorem gS_Zl {w : gWo} {s : State} {H : Heap} {locs : List Loc} (hS : va_S (fun q => s.heap.size ≤ q) s.heap H locs) (hZ : gSt w s s.heap) : gSt w s H := hZ.kept (fun a h1 _ => hS.2.1 a h1 (Nat.not_le.mpr h1))
theorem gtb_lw {x : Cond} (h : x ∈ gtb) : x ∈ lw_tbl := (List.mem_filter.mp h).1
theorem l_callV {w : gWo} {p : Program} {l : Launch} {e : Env} {s : State} {m : MethodId} {below : List Frame} {meth : Method} {c : Code} {b : Nat} {H : Heap} {locs : List Loc} {cells slots : Nat} {Q : State → Prop} {pc n ci N index c0 : Nat} {C : String} {T : u_T} {y : MethodName} {M' : gMi} {as rest : List Value} {μ : gMem} {r : gR} {ls : Array Slot} {A0 : Nat → Prop}
    (hx : p.tables.exec = Jvm.exec) (hb : c.code = code) (hml : c.maxLocals = 4) (hown : s.vm.findClass R_law = some m.cls) (hts : ∀ w ∈ lw_tbl, w.before #[Value.ref b] s = true) (hls : ls.size = 4)
    (hd : decode code pc = .ok (.invokevirtual index, 3)) (hM : gMt w l y M' (.ref c0 :: as) μ r) (hc : gcl[ci]? = some (C, T, N)) (ho : g_isO w.2.2.1 c0 ci = true)
    (hw1 : Cond.methodLink R_law index y ∈ gtb) (hw2 : Cond.instanceMethod y ∈ gtb) (hw3 : Cond.selects C y y ∈ gtb) (hw4 : Cond.initialized y.cls ∈ gtb) (hw5 : Cond.code y M'.1 M'.2.1 M'.2.2.2.1 ∈ gtb)
    (hy : y.cls ≠ "java/lang/invoke/MethodHandle" ∧ y.cls ≠ "java/lang/invoke/VarHandle" ∧ (parseMethodDescriptor y.desc).map (fun d => d.parameters.length) = some n) (hh : M'.2.2.2.2 + 1 ≤ 14 ∧ 8 + (M'.2.1 + 11) + 40 * M'.2.2.2.2 ≤ 562) (hn : as.length = n) (hrest : (rest.map fun v => v.category).sum ≤ 8) (hcs : cells ≤ 600000 ∧ slots ≤ 7302250)
    (hP : va_P w.1 gcl (gW w μ) H) (hK : va_K w.1 gcl (gty w) s) (hI : gInj w) (hZ : gSt w s s.heap) (hA : ∀ q, gA w q → s.heap.size ≤ q) (hS : va_S (fun q => s.heap.size ≤ q) s.heap H locs) (hst : ∀ v ∈ as, gv w.2.2.2 v = v) (hr : ∀ q, r.1 = some q → gv w.2.2.2 q = q)
    (kk : ∀ (H1 : Heap) (locs1 : List Loc), va_P w.1 gcl (gW w r.2) H1 → va_S (fun q => s.heap.size ≤ q) s.heap H1 locs1 → (∀ q : Nat, q < H.size → ¬ gA w q → H1[q]? = H[q]?) → W p l e room_1 s m #[Value.ref b] below meth c H1 locs1 cells slots Q (F0 m (pc + 3) ls (r.1.toList ++ rest))) :
    W p l e room_1 s m #[Value.ref b] below meth c H locs cells slots Q (F0 m pc ls (as.reverse ++ .ref (w.2.2.2 c0) :: rest)) := by
  have hasv : as.map (gv w.2.2.2) = as := by
    conv => rhs; rw [← List.map_id as]
    exact List.map_congr_left (fun v hv => hst v hv)
  obtain ⟨h1, h2⟩ := g_isO_spec ho
  have he := gW_get (w := w) (μ := μ) h1
  rw [gE_obj h2] at he
  have hts' : ∀ x ∈ gtb, x.before #[Value.ref b] s = true := fun x hx => hts x (gtb_lw hx)
  have hrun := va_runV (g := F0 m pc ls (as.reverse ++ .ref (w.2.2.2 c0) :: rest)) (locs := locs) (cells := cells) (slots := slots) (Ts := gtb) (As := as) (rest := rest) (b := w.2.2.2 c0) (C := C) (R := room_1) (e := e) (below := below) (meth := meth) (H := H) (nL := 4) ⟨hx, hb, hml, hown, hts'⟩ hM ⟨callB_of n hts' (g_goodIn hw5) rfl rfl rfl (hts' _ hw4) (hts' _ hw1) hy hh, hts' _ hw2, hts' _ hw3⟩
    ⟨fun a U g mk q => by
      obtain ⟨q0, q1, q2, q3, q4⟩ := q
      exact ⟨q0, q1, va_K.moved (u := U) (U := U.calling g mk a) (Vm.Alike.refl U.vm) q2, q3, gSt.moved (u := U) (U := U.calling g mk a) (Vm.Alike.refl U.vm) q4⟩, va_recv hK hP hc he, fun U hU hW => ⟨by show (Value.ref (w.2.2.2 c0) :: as).toArray = ((Value.ref c0 :: as).map (gv w.2.2.2)).toArray; rw [List.map_cons, hasv]; rfl, by rw [hU]; exact hP, va_K.moved hW.alike hK, hI, by rw [hU]; exact (gS_Zl hS hZ).moved hW.alike⟩⟩ rfl hn hls rfl (lv_room hrest) hd (by exact hcs)
  intro T hT X
  obtain ⟨v, st₀, t, T', L, h0, X', hL, e1, e2, ⟨hv, hP1, hz, hkeep⟩, st⟩ := hrun T hT X
  have hv : v = r.1 := by
    have hv2 : v = r.1.map (gv w.2.2.2) := by cases hv; rfl
    rw [hv2]
    cases h9 : r.1 with
    | none => rfl
    | some q => show some (gv w.2.2.2 q) = some q; rw [hr q h9]
  subst hv
  rw [h0] at hz hkeep
  obtain ⟨t2, a1, b1⟩ := kk T'.heap (locs ++ L) (by rw [e1]; exact hP1)
    ⟨Nat.le_trans hS.1 (by rw [e1]; exact hz), fun q h1 h2 => by rw [e1, hkeep q (Nat.lt_of_lt_of_le h1 hS.1) (fun z => h2 (hA q z))]; exact hS.2.1 q h1 h2, fun q hq => by
      rcases List.mem_append.mp hq with h | h
      · exact hS.2.2 q h
      · exact hA _ (hL q h)⟩ (fun q h1 h2 => by rw [e1]; exact hkeep q h1 h2) T' rfl X'
  exact ⟨t2, st t2 a1, b1⟩
section LAW
variable {p : Program} {l : Launch} {e : Env} {s : State} {m : MethodId} {below : List Frame} {meth : Method} {c : Code} {b L : Nat} {xs : Nat → Int32} {H : Heap} {locs : List Loc} {cells slots : Nat} {Q : State → Prop} {ls : Array Slot} {st : List Value} {v1 v2 : Nat}
theorem l_arg {pc i : Nat} {n : Int} {d : Nat} (C0 : lw_At p s m meth c b L xs) (hS : va_S (fun q => s.heap.size ≤ q) s.heap H locs) (hl : lv_has ls 4 [(0, .ref b), (1, .ref v1), (2, .ref v2), (3, .int (nI i))]) (d0 : decode code pc = .ok (.aload_n 0, 1)) (d1 : decode code (pc + 1) = .ok (.iload_n 3, 1)) (d2 : decode code (pc + 2) = .ok (.iconst n, 1)) (d3 : decode code (pc + 3) = .ok (.iadd, 1)) (d4 : decode code (pc + 4) = .ok (.iaload, 1)) (hn : Int32.ofInt n = nI d) (hi : i + d < L) (hL : L ≤ 2560)
    (kk : W p l e room_1 s m #[Value.ref b] below meth c H locs cells slots Q (F0 m (pc + 5) ls (.int (xs (i + d)) :: st))) : W p l e room_1 s m #[Value.ref b] below meth c H locs cells slots Q (F0 m pc ls st) := by
  obtain ⟨hx, hb, hr, hml, hown, hts, hX, hbl, hlocks, hgv⟩ := C0
  refine lv_aload_n hx hb d0 rfl (lv_at hl 0 rfl) ?_
  refine lv_iload_n hx hb d1 rfl (lv_at hl 3 rfl) ?_
  refine lv_iconst hx hb d2 hn ?_
  refine lv_iadd hx hb d3 ?_
  rw [nad]
  refine va_sld hx hb hX hbl (Nat.not_le.mpr hbl) hS (vp_in_nI hi (by omega)) d4 ?_
  rw [nI_clamp (by omega)]
  exact kk

set_option maxRecDepth 20000 in
theorem lwd_0 : ∀ e ∈ ([(184, .aload_n 1, 1), (185, .aload_n 0, 1), (186, .iload_n 3, 1), (187, .iconst 1, 1), (188, .iadd, 1), (189, .iaload, 1), (190, .aload_n 0, 1), (191, .iload_n 3, 1), (192, .iconst 2, 1), (193, .iadd, 1), (194, .iaload, 1), (195, .invokevirtual 13, 3), (198, .aload_n 2, 1), (199, .aload_n 0, 1), (200, .iload_n 3, 1), (201, .iconst 1, 1), (202, .iadd, 1), (203, .iaload, 1), (204, .aload_n 0, 1), (205, .iload_n 3, 1), (206, .iconst 2, 1), (207, .iadd, 1), (208, .iaload, 1), (209, .invokevirtual 17, 3), (212, .if_icmp .eq 960, 3), (215, .iconst 0, 1), (216, .ireturn, 1)] : List (Nat × Instr × Nat)), decode code e.1 = .ok (e.2.1, e.2.2) := by decide +kernel
set_option maxHeartbeats 2000000 in
theorem lc_0 {D : va_G} {τ : ClassId × ClassId × ClassId × ClassId} {a1 a2 : Nat → Nat} {Rl : Nat → gMem → gMem → Prop} {i k : Nat} (C0 : lw_At p s m meth c b L xs) (hL : L ≤ 2560) (F : LF D τ a1 a2 s) (hl : lv_has ls 4 [(0, .ref b), (1, .ref (a1 177)), (2, .ref (a2 0)), (3, .int (nI i))]) (hi : i + 4 < L) (hk : k < 512) (hcs : cells ≤ 600000 ∧ slots ≤ 7302250) (ok : oK Rl mX9_set mX10_set [.int (xs (i + 1)), .int (xs (i + 2))])
    (kk : ∀ (H : Heap) (locs : List Loc) (μ ν : gMem), LW D τ a1 a2 s μ ν H locs → Rl (k + 1) μ ν → W p l e room_1 s m #[Value.ref b] below meth c H locs cells slots Q (F0 m 1172 ls [])) (H : Heap) (locs : List Loc) (μ ν : gMem) (hW : LW D τ a1 a2 s μ ν H locs) (hR : Rl k μ ν) : W p l e room_1 s m #[Value.ref b] below meth c H locs cells slots Q (F0 m 184 ls []) := by
  have d184 : decode code 184 = .ok (.aload_n 1, 1) := lwd_0 (184, .aload_n 1, 1) (List.mem_of_getElem? (i := 0) rfl)
  have d185 : decode code 185 = .ok (.aload_n 0, 1) := lwd_0 (185, .aload_n 0, 1) (List.mem_of_getElem? (i := 1) rfl)
  have d186 : decode code 186 = .ok (.iload_n 3, 1) := lwd_0 (186, .iload_n 3, 1) (List.mem_of_getElem? (i := 2) rfl)
  have d187 : decode code 187 = .ok (.iconst 1, 1) := lwd_0 (187, .iconst 1, 1) (List.mem_of_getElem? (i := 3) rfl)
  have d188 : decode code 188 = .ok (.iadd, 1) := lwd_0 (188, .iadd, 1) (List.mem_of_getElem? (i := 4) rfl)
  have d189 : decode code 189 = .ok (.iaload, 1) := lwd_0 (189, .iaload, 1) (List.mem_of_getElem? (i := 5) rfl)
  have d190 : decode code 190 = .ok (.aload_n 0, 1) := lwd_0 (190, .aload_n 0, 1) (List.mem_of_getElem? (i := 6) rfl)
  have d191 : decode code 191 = .ok (.iload_n 3, 1) := lwd_0 (191, .iload_n 3, 1) (List.mem_of_getElem? (i := 7) rfl)
  have d192 : decode code 192 = .ok (.iconst 2, 1) := lwd_0 (192, .iconst 2, 1) (List.mem_of_getElem? (i := 8) rfl)
  have d193 : decode code 193 = .ok (.iadd, 1) := lwd_0 (193, .iadd, 1) (List.mem_of_getElem? (i := 9) rfl)
  have d194 : decode code 194 = .ok (.iaload, 1) := lwd_0 (194, .iaload, 1) (List.mem_of_getElem? (i := 10) rfl)
  have d195 : decode code 195 = .ok (.invokevirtual 13, 3) := lwd_0 (195, .invokevirtual 13, 3) (List.mem_of_getElem? (i := 11) rfl)
  have d198 : decode code 198 = .ok (.aload_n 2, 1) := lwd_0 (198, .aload_n 2, 1) (List.mem_of_getElem? (i := 12) rfl)
  have d199 : decode code 199 = .ok (.aload_n 0, 1) := lwd_0 (199, .aload_n 0, 1) (List.mem_of_getElem? (i := 13) rfl)
  have d200 : decode code 200 = .ok (.iload_n 3, 1) := lwd_0 (200, .iload_n 3, 1) (List.mem_of_getElem? (i := 14) rfl)
  have d201 : decode code 201 = .ok (.iconst 1, 1) := lwd_0 (201, .iconst 1, 1) (List.mem_of_getElem? (i := 15) rfl)
  have d202 : decode code 202 = .ok (.iadd, 1) := lwd_0 (202, .iadd, 1) (List.mem_of_getElem? (i := 16) rfl)
  have d203 : decode code 203 = .ok (.iaload, 1) := lwd_0 (203, .iaload, 1) (List.mem_of_getElem? (i := 17) rfl)
  have d204 : decode code 204 = .ok (.aload_n 0, 1) := lwd_0 (204, .aload_n 0, 1) (List.mem_of_getElem? (i := 18) rfl)
  have d205 : decode code 205 = .ok (.iload_n 3, 1) := lwd_0 (205, .iload_n 3, 1) (List.mem_of_getElem? (i := 19) rfl)
  have d206 : decode code 206 = .ok (.iconst 2, 1) := lwd_0 (206, .iconst 2, 1) (List.mem_of_getElem? (i := 20) rfl)
  have d207 : decode code 207 = .ok (.iadd, 1) := lwd_0 (207, .iadd, 1) (List.mem_of_getElem? (i := 21) rfl)
  have d208 : decode code 208 = .ok (.iaload, 1) := lwd_0 (208, .iaload, 1) (List.mem_of_getElem? (i := 22) rfl)
  have d209 : decode code 209 = .ok (.invokevirtual 17, 3) := lwd_0 (209, .invokevirtual 17, 3) (List.mem_of_getElem? (i := 23) rfl)
  have d212 : decode code 212 = .ok (.if_icmp .eq 960, 3) := lwd_0 (212, .if_icmp .eq 960, 3) (List.mem_of_getElem? (i := 24) rfl)
  have d215 : decode code 215 = .ok (.iconst 0, 1) := lwd_0 (215, .iconst 0, 1) (List.mem_of_getElem? (i := 25) rfl)
  have d216 : decode code 216 = .ok (.ireturn, 1) := lwd_0 (216, .ireturn, 1) (List.mem_of_getElem? (i := 26) rfl)
  obtain ⟨hx, hb, hr, hml, hown, hts, hX, hbl, hlocks, hgv⟩ := id C0
  obtain ⟨hK, hI1, hI2, hZ1, hZ2, hA1, hA2, hdis⟩ := F
  obtain ⟨hP1, hP2, hS⟩ := hW
  obtain ⟨x, μ', ν', e1, e2, hR'⟩ := ok k μ ν hk hR
  refine lv_aload_n hx hb d184 rfl (lv_at hl 1 rfl) ?_
  refine l_arg (d := 1) C0 hS hl d185 d186 d187 d188 d189 rfl (by omega) hL ?_
  refine l_arg (d := 2) C0 hS hl d190 d191 d192 d193 d194 rfl (by omega) hL ?_
  refine l_callV (n := 2) (w := (D, τ, LC, a1)) (c0 := 177) (as := [.int (xs (i + 1)), .int (xs (i + 2))]) (rest := []) (M' := MX9_set) (ci := 0) (C := RX9) (T := TX9) (N := 5) (A0 := fun _ => True) hx hb hml hown hts hl.1 d195 (tX9_set l D τ a1 _ _ _ e1) rfl rfl q419 q420 q421 q141 q422 (by decide +kernel) (by decide) rfl (Nat.le_of_ble_eq_true rfl) hcs hP1 hK hI1 hZ1 (by rintro q ⟨c, hc, rfl⟩; exact hA1 c hc) hS (by intro v hv; simp at hv; try (rcases hv with rfl | rfl | rfl | rfl <;> rfl); try (rcases hv with rfl | rfl | rfl <;> rfl); try (rcases hv with rfl | rfl <;> rfl); try (subst hv; rfl)) (by intro q hq; cases hq; rfl) (fun H1 locs1 hQ1 hS hkeep => ?_)
  have hP2 : va_P D gcl (gW (D, τ, LM, a2) ν) H1 := hP2.kept (fun k9 q9 h9 => by
    have hlt := (hP2 k9 q9 h9).lt
    refine hkeep _ hlt ?_
    rintro ⟨c, hc, he⟩
    have h8 : k9 < 17 := by have := (List.getElem?_eq_some_iff.mp h9).1; rw [gW_len] at this; exact this
    rw [gW_get (w := (D, τ, LM, a2)) h8] at h9
    cases h9
    exact hdis c k9 hc h8 he.symm)
  refine lv_aload_n hx hb d198 rfl (lv_at hl 2 rfl) ?_
  refine l_arg (d := 1) C0 hS hl d199 d200 d201 d202 d203 rfl (by omega) hL ?_
  refine l_arg (d := 2) C0 hS hl d204 d205 d206 d207 d208 rfl (by omega) hL ?_
  refine l_callV (n := 2) (w := (D, τ, LM, a2)) (c0 := 0) (as := [.int (xs (i + 1)), .int (xs (i + 2))]) (rest := [.int x]) (M' := MX10_set) (ci := 9) (C := RX10) (T := TX10) (N := 30) (A0 := fun _ => True) hx hb hml hown hts hl.1 d209 (tX10_set l D τ a2 _ _ _ e2) rfl rfl q1281 q1282 q1283 q150 q1284 (by decide +kernel) (by decide) rfl (Nat.le_of_ble_eq_true rfl) hcs hP2 hK hI2 hZ2 (by rintro q ⟨c, hc, rfl⟩; exact hA2 c hc) hS (by intro v hv; simp at hv; try (rcases hv with rfl | rfl | rfl | rfl <;> rfl); try (rcases hv with rfl | rfl | rfl <;> rfl); try (rcases hv with rfl | rfl <;> rfl); try (subst hv; rfl)) (by intro q hq; cases hq; rfl) (fun H2 locs2 hQ2 hS hkeep2 => ?_)
  have hQ1 : va_P D gcl (gW (D, τ, LC, a1) μ') H2 := hQ1.kept (fun k9 q9 h9 => by
    have hlt := (hQ1 k9 q9 h9).lt
    refine hkeep2 _ hlt ?_
    rintro ⟨c, hc, he⟩
    have h8 : k9 < 182 := by have := (List.getElem?_eq_some_iff.mp h9).1; rw [gW_len] at this; exact this
    rw [gW_get (w := (D, τ, LC, a1)) h8] at h9
    cases h9
    exact hdis k9 c h8 hc he)
  refine lv_icmp_eq (tgt := 1172) hx hb d212 (by decide) (fun _ => ?_) (fun hc => absurd rfl hc)
  exact kk _ _ μ' ν' ⟨hQ1, hQ2, hS⟩ hR'
set_option maxRecDepth 20000 in
theorem lwd_1 : ∀ e ∈ ([(217, .aload_n 1, 1), (218, .aload_n 0, 1), (219, .iload_n 3, 1), (220, .iconst 1, 1), (221, .iadd, 1), (222, .iaload, 1), (223, .aload_n 0, 1), (224, .iload_n 3, 1), (225, .iconst 2, 1), (226, .iadd, 1), (227, .iaload, 1), (228, .invokevirtual 18, 3), (231, .aload_n 2, 1), (232, .aload_n 0, 1), (233, .iload_n 3, 1), (234, .iconst 1, 1), (235, .iadd, 1), (236, .iaload, 1), (237, .aload_n 0, 1), (238, .iload_n 3, 1), (239, .iconst 2, 1), (240, .iadd, 1), (241, .iaload, 1), (242, .invokevirtual 21, 3), (245, .if_icmp .eq 927, 3), (248, .iconst 0, 1), (249, .ireturn, 1)] : List (Nat × Instr × Nat)), decode code e.1 = .ok (e.2.1, e.2.2) := by decide +kernel
set_option maxHeartbeats 2000000 in
theorem lc_1 {D : va_G} {τ : ClassId × ClassId × ClassId × ClassId} {a1 a2 : Nat → Nat} {Rl : Nat → gMem → gMem → Prop} {i k : Nat} (C0 : lw_At p s m meth c b L xs) (hL : L ≤ 2560) (F : LF D τ a1 a2 s) (hl : lv_has ls 4 [(0, .ref b), (1, .ref (a1 177)), (2, .ref (a2 0)), (3, .int (nI i))]) (hi : i + 4 < L) (hk : k < 512) (hcs : cells ≤ 600000 ∧ slots ≤ 7302250) (ok : oK Rl mX9_share mX10_share [.int (xs (i + 1)), .int (xs (i + 2))])
    (kk : ∀ (H : Heap) (locs : List Loc) (μ ν : gMem), LW D τ a1 a2 s μ ν H locs → Rl (k + 1) μ ν → W p l e room_1 s m #[Value.ref b] below meth c H locs cells slots Q (F0 m 1172 ls [])) (H : Heap) (locs : List Loc) (μ ν : gMem) (hW : LW D τ a1 a2 s μ ν H locs) (hR : Rl k μ ν) : W p l e room_1 s m #[Value.ref b] below meth c H locs cells slots Q (F0 m 217 ls []) := by
  have d217 : decode code 217 = .ok (.aload_n 1, 1) := lwd_1 (217, .aload_n 1, 1) (List.mem_of_getElem? (i := 0) rfl)
  have d218 : decode code 218 = .ok (.aload_n 0, 1) := lwd_1 (218, .aload_n 0, 1) (List.mem_of_getElem? (i := 1) rfl)
  have d219 : decode code 219 = .ok (.iload_n 3, 1) := lwd_1 (219, .iload_n 3, 1) (List.mem_of_getElem? (i := 2) rfl)
  have d220 : decode code 220 = .ok (.iconst 1, 1) := lwd_1 (220, .iconst 1, 1) (List.mem_of_getElem? (i := 3) rfl)
  have d221 : decode code 221 = .ok (.iadd, 1) := lwd_1 (221, .iadd, 1) (List.mem_of_getElem? (i := 4) rfl)
  have d222 : decode code 222 = .ok (.iaload, 1) := lwd_1 (222, .iaload, 1) (List.mem_of_getElem? (i := 5) rfl)
  have d223 : decode code 223 = .ok (.aload_n 0, 1) := lwd_1 (223, .aload_n 0, 1) (List.mem_of_getElem? (i := 6) rfl)
  have d224 : decode code 224 = .ok (.iload_n 3, 1) := lwd_1 (224, .iload_n 3, 1) (List.mem_of_getElem? (i := 7) rfl)
  have d225 : decode code 225 = .ok (.iconst 2, 1) := lwd_1 (225, .iconst 2, 1) (List.mem_of_getElem? (i := 8) rfl)
  have d226 : decode code 226 = .ok (.iadd, 1) := lwd_1 (226, .iadd, 1) (List.mem_of_getElem? (i := 9) rfl)
  have d227 : decode code 227 = .ok (.iaload, 1) := lwd_1 (227, .iaload, 1) (List.mem_of_getElem? (i := 10) rfl)
  have d228 : decode code 228 = .ok (.invokevirtual 18, 3) := lwd_1 (228, .invokevirtual 18, 3) (List.mem_of_getElem? (i := 11) rfl)
  have d231 : decode code 231 = .ok (.aload_n 2, 1) := lwd_1 (231, .aload_n 2, 1) (List.mem_of_getElem? (i := 12) rfl)
  have d232 : decode code 232 = .ok (.aload_n 0, 1) := lwd_1 (232, .aload_n 0, 1) (List.mem_of_getElem? (i := 13) rfl)
  have d233 : decode code 233 = .ok (.iload_n 3, 1) := lwd_1 (233, .iload_n 3, 1) (List.mem_of_getElem? (i := 14) rfl)
  have d234 : decode code 234 = .ok (.iconst 1, 1) := lwd_1 (234, .iconst 1, 1) (List.mem_of_getElem? (i := 15) rfl)
  have d235 : decode code 235 = .ok (.iadd, 1) := lwd_1 (235, .iadd, 1) (List.mem_of_getElem? (i := 16) rfl)
  have d236 : decode code 236 = .ok (.iaload, 1) := lwd_1 (236, .iaload, 1) (List.mem_of_getElem? (i := 17) rfl)
  have d237 : decode code 237 = .ok (.aload_n 0, 1) := lwd_1 (237, .aload_n 0, 1) (List.mem_of_getElem? (i := 18) rfl)
  have d238 : decode code 238 = .ok (.iload_n 3, 1) := lwd_1 (238, .iload_n 3, 1) (List.mem_of_getElem? (i := 19) rfl)
  have d239 : decode code 239 = .ok (.iconst 2, 1) := lwd_1 (239, .iconst 2, 1) (List.mem_of_getElem? (i := 20) rfl)
  have d240 : decode code 240 = .ok (.iadd, 1) := lwd_1 (240, .iadd, 1) (List.mem_of_getElem? (i := 21) rfl)
  have d241 : decode code 241 = .ok (.iaload, 1) := lwd_1 (241, .iaload, 1) (List.mem_of_getElem? (i := 22) rfl)
  have d242 : decode code 242 = .ok (.invokevirtual 21, 3) := lwd_1 (242, .invokevirtual 21, 3) (List.mem_of_getElem? (i := 23) rfl)
  have d245 : decode code 245 = .ok (.if_icmp .eq 927, 3) := lwd_1 (245, .if_icmp .eq 927, 3) (List.mem_of_getElem? (i := 24) rfl)
  have d248 : decode code 248 = .ok (.iconst 0, 1) := lwd_1 (248, .iconst 0, 1) (List.mem_of_getElem? (i := 25) rfl)
  have d249 : decode code 249 = .ok (.ireturn, 1) := lwd_1 (249, .ireturn, 1) (List.mem_of_getElem? (i := 26) rfl)
  obtain ⟨hx, hb, hr, hml, hown, hts, hX, hbl, hlocks, hgv⟩ := id C0
  obtain ⟨hK, hI1, hI2, hZ1, hZ2, hA1, hA2, hdis⟩ := F
  obtain ⟨hP1, hP2, hS⟩ := hW
  obtain ⟨x, μ', ν', e1, e2, hR'⟩ := ok k μ ν hk hR
  refine lv_aload_n hx hb d217 rfl (lv_at hl 1 rfl) ?_
  refine l_arg (d := 1) C0 hS hl d218 d219 d220 d221 d222 rfl (by omega) hL ?_
  refine l_arg (d := 2) C0 hS hl d223 d224 d225 d226 d227 rfl (by omega) hL ?_
  refine l_callV (n := 2) (w := (D, τ, LC, a1)) (c0 := 177) (as := [.int (xs (i + 1)), .int (xs (i + 2))]) (rest := []) (M' := MX9_share) (ci := 0) (C := RX9) (T := TX9) (N := 5) (A0 := fun _ => True) hx hb hml hown hts hl.1 d228 (tX9_share l D τ a1 _ _ _ e1) rfl rfl q565 q566 q567 q141 q568 (by decide +kernel) (by decide) rfl (Nat.le_of_ble_eq_true rfl) hcs hP1 hK hI1 hZ1 (by rintro q ⟨c, hc, rfl⟩; exact hA1 c hc) hS (by intro v hv; simp at hv; try (rcases hv with rfl | rfl | rfl | rfl <;> rfl); try (rcases hv with rfl | rfl | rfl <;> rfl); try (rcases hv with rfl | rfl <;> rfl); try (subst hv; rfl)) (by intro q hq; cases hq; rfl) (fun H1 locs1 hQ1 hS hkeep => ?_)
  have hP2 : va_P D gcl (gW (D, τ, LM, a2) ν) H1 := hP2.kept (fun k9 q9 h9 => by
    have hlt := (hP2 k9 q9 h9).lt
    refine hkeep _ hlt ?_
    rintro ⟨c, hc, he⟩
    have h8 : k9 < 17 := by have := (List.getElem?_eq_some_iff.mp h9).1; rw [gW_len] at this; exact this
    rw [gW_get (w := (D, τ, LM, a2)) h8] at h9
    cases h9
    exact hdis c k9 hc h8 he.symm)
  refine lv_aload_n hx hb d231 rfl (lv_at hl 2 rfl) ?_
  refine l_arg (d := 1) C0 hS hl d232 d233 d234 d235 d236 rfl (by omega) hL ?_
  refine l_arg (d := 2) C0 hS hl d237 d238 d239 d240 d241 rfl (by omega) hL ?_
  refine l_callV (n := 2) (w := (D, τ, LM, a2)) (c0 := 0) (as := [.int (xs (i + 1)), .int (xs (i + 2))]) (rest := [.int x]) (M' := MX10_share) (ci := 9) (C := RX10) (T := TX10) (N := 30) (A0 := fun _ => True) hx hb hml hown hts hl.1 d242 (tX10_share l D τ a2 _ _ _ e2) rfl rfl q1421 q1422 q1423 q150 q1424 (by decide +kernel) (by decide) rfl (Nat.le_of_ble_eq_true rfl) hcs hP2 hK hI2 hZ2 (by rintro q ⟨c, hc, rfl⟩; exact hA2 c hc) hS (by intro v hv; simp at hv; try (rcases hv with rfl | rfl | rfl | rfl <;> rfl); try (rcases hv with rfl | rfl | rfl <;> rfl); try (rcases hv with rfl | rfl <;> rfl); try (subst hv; rfl)) (by intro q hq; cases hq; rfl) (fun H2 locs2 hQ2 hS hkeep2 => ?_)
  have hQ1 : va_P D gcl (gW (D, τ, LC, a1) μ') H2 := hQ1.kept (fun k9 q9 h9 => by
    have hlt := (hQ1 k9 q9 h9).lt
    refine hkeep2 _ hlt ?_
    rintro ⟨c, hc, he⟩
    have h8 : k9 < 182 := by have := (List.getElem?_eq_some_iff.mp h9).1; rw [gW_len] at this; exact this
    rw [gW_get (w := (D, τ, LC, a1)) h8] at h9
    cases h9
    exact hdis k9 c h8 hc he)
  refine lv_icmp_eq (tgt := 1172) hx hb d245 (by decide) (fun _ => ?_) (fun hc => absurd rfl hc)
  exact kk _ _ μ' ν' ⟨hQ1, hQ2, hS⟩ hR'
set_option maxRecDepth 20000 in
theorem lwd_2 : ∀ e ∈ ([(250, .aload_n 1, 1), (251, .aload_n 0, 1), (252, .iload_n 3, 1), (253, .iconst 1, 1), (254, .iadd, 1), (255, .iaload, 1), (256, .aload_n 0, 1), (257, .iload_n 3, 1), (258, .iconst 2, 1), (259, .iadd, 1), (260, .iaload, 1), (261, .aload_n 0, 1), (262, .iload_n 3, 1), (263, .iconst 3, 1), (264, .iadd, 1), (265, .iaload, 1), (266, .aload_n 0, 1), (267, .iload_n 3, 1), (268, .iconst 4, 1), (269, .iadd, 1), (270, .iaload, 1), (271, .invokevirtual 22, 3), (274, .aload_n 2, 1), (275, .aload_n 0, 1), (276, .iload_n 3, 1), (277, .iconst 1, 1), (278, .iadd, 1), (279, .iaload, 1), (280, .aload_n 0, 1), (281, .iload_n 3, 1), (282, .iconst 2, 1), (283, .iadd, 1), (284, .iaload, 1), (285, .aload_n 0, 1), (286, .iload_n 3, 1), (287, .iconst 3, 1), (288, .iadd, 1), (289, .iaload, 1), (290, .aload_n 0, 1), (291, .iload_n 3, 1), (292, .iconst 4, 1), (293, .iadd, 1), (294, .iaload, 1), (295, .invokevirtual 26, 3), (298, .if_icmp .eq 874, 3), (301, .iconst 0, 1), (302, .ireturn, 1)] : List (Nat × Instr × Nat)), decode code e.1 = .ok (e.2.1, e.2.2) := by decide +kernel
set_option maxHeartbeats 2000000 in
theorem lc_2 {D : va_G} {τ : ClassId × ClassId × ClassId × ClassId} {a1 a2 : Nat → Nat} {Rl : Nat → gMem → gMem → Prop} {i k : Nat} (C0 : lw_At p s m meth c b L xs) (hL : L ≤ 2560) (F : LF D τ a1 a2 s) (hl : lv_has ls 4 [(0, .ref b), (1, .ref (a1 177)), (2, .ref (a2 0)), (3, .int (nI i))]) (hi : i + 4 < L) (hk : k < 512) (hcs : cells ≤ 600000 ∧ slots ≤ 7302250) (ok : oK Rl mX9_job mX10_job [.int (xs (i + 1)), .int (xs (i + 2)), .int (xs (i + 3)), .int (xs (i + 4))])
    (kk : ∀ (H : Heap) (locs : List Loc) (μ ν : gMem), LW D τ a1 a2 s μ ν H locs → Rl (k + 1) μ ν → W p l e room_1 s m #[Value.ref b] below meth c H locs cells slots Q (F0 m 1172 ls [])) (H : Heap) (locs : List Loc) (μ ν : gMem) (hW : LW D τ a1 a2 s μ ν H locs) (hR : Rl k μ ν) : W p l e room_1 s m #[Value.ref b] below meth c H locs cells slots Q (F0 m 250 ls []) := by
  have d250 : decode code 250 = .ok (.aload_n 1, 1) := lwd_2 (250, .aload_n 1, 1) (List.mem_of_getElem? (i := 0) rfl)
  have d251 : decode code 251 = .ok (.aload_n 0, 1) := lwd_2 (251, .aload_n 0, 1) (List.mem_of_getElem? (i := 1) rfl)
  have d252 : decode code 252 = .ok (.iload_n 3, 1) := lwd_2 (252, .iload_n 3, 1) (List.mem_of_getElem? (i := 2) rfl)
  have d253 : decode code 253 = .ok (.iconst 1, 1) := lwd_2 (253, .iconst 1, 1) (List.mem_of_getElem? (i := 3) rfl)
  have d254 : decode code 254 = .ok (.iadd, 1) := lwd_2 (254, .iadd, 1) (List.mem_of_getElem? (i := 4) rfl)
  have d255 : decode code 255 = .ok (.iaload, 1) := lwd_2 (255, .iaload, 1) (List.mem_of_getElem? (i := 5) rfl)
  have d256 : decode code 256 = .ok (.aload_n 0, 1) := lwd_2 (256, .aload_n 0, 1) (List.mem_of_getElem? (i := 6) rfl)
  have d257 : decode code 257 = .ok (.iload_n 3, 1) := lwd_2 (257, .iload_n 3, 1) (List.mem_of_getElem? (i := 7) rfl)
  have d258 : decode code 258 = .ok (.iconst 2, 1) := lwd_2 (258, .iconst 2, 1) (List.mem_of_getElem? (i := 8) rfl)
  have d259 : decode code 259 = .ok (.iadd, 1) := lwd_2 (259, .iadd, 1) (List.mem_of_getElem? (i := 9) rfl)
  have d260 : decode code 260 = .ok (.iaload, 1) := lwd_2 (260, .iaload, 1) (List.mem_of_getElem? (i := 10) rfl)
  have d261 : decode code 261 = .ok (.aload_n 0, 1) := lwd_2 (261, .aload_n 0, 1) (List.mem_of_getElem? (i := 11) rfl)
  have d262 : decode code 262 = .ok (.iload_n 3, 1) := lwd_2 (262, .iload_n 3, 1) (List.mem_of_getElem? (i := 12) rfl)
  have d263 : decode code 263 = .ok (.iconst 3, 1) := lwd_2 (263, .iconst 3, 1) (List.mem_of_getElem? (i := 13) rfl)
  have d264 : decode code 264 = .ok (.iadd, 1) := lwd_2 (264, .iadd, 1) (List.mem_of_getElem? (i := 14) rfl)
  have d265 : decode code 265 = .ok (.iaload, 1) := lwd_2 (265, .iaload, 1) (List.mem_of_getElem? (i := 15) rfl)
  have d266 : decode code 266 = .ok (.aload_n 0, 1) := lwd_2 (266, .aload_n 0, 1) (List.mem_of_getElem? (i := 16) rfl)
  have d267 : decode code 267 = .ok (.iload_n 3, 1) := lwd_2 (267, .iload_n 3, 1) (List.mem_of_getElem? (i := 17) rfl)
  have d268 : decode code 268 = .ok (.iconst 4, 1) := lwd_2 (268, .iconst 4, 1) (List.mem_of_getElem? (i := 18) rfl)
  have d269 : decode code 269 = .ok (.iadd, 1) := lwd_2 (269, .iadd, 1) (List.mem_of_getElem? (i := 19) rfl)
  have d270 : decode code 270 = .ok (.iaload, 1) := lwd_2 (270, .iaload, 1) (List.mem_of_getElem? (i := 20) rfl)
  have d271 : decode code 271 = .ok (.invokevirtual 22, 3) := lwd_2 (271, .invokevirtual 22, 3) (List.mem_of_getElem? (i := 21) rfl)
  have d274 : decode code 274 = .ok (.aload_n 2, 1) := lwd_2 (274, .aload_n 2, 1) (List.mem_of_getElem? (i := 22) rfl)
  have d275 : decode code 275 = .ok (.aload_n 0, 1) := lwd_2 (275, .aload_n 0, 1) (List.mem_of_getElem? (i := 23) rfl)
  have d276 : decode code 276 = .ok (.iload_n 3, 1) := lwd_2 (276, .iload_n 3, 1) (List.mem_of_getElem? (i := 24) rfl)
  have d277 : decode code 277 = .ok (.iconst 1, 1) := lwd_2 (277, .iconst 1, 1) (List.mem_of_getElem? (i := 25) rfl)
  have d278 : decode code 278 = .ok (.iadd, 1) := lwd_2 (278, .iadd, 1) (List.mem_of_getElem? (i := 26) rfl)
  have d279 : decode code 279 = .ok (.iaload, 1) := lwd_2 (279, .iaload, 1) (List.mem_of_getElem? (i := 27) rfl)
  have d280 : decode code 280 = .ok (.aload_n 0, 1) := lwd_2 (280, .aload_n 0, 1) (List.mem_of_getElem? (i := 28) rfl)
  have d281 : decode code 281 = .ok (.iload_n 3, 1) := lwd_2 (281, .iload_n 3, 1) (List.mem_of_getElem? (i := 29) rfl)
  have d282 : decode code 282 = .ok (.iconst 2, 1) := lwd_2 (282, .iconst 2, 1) (List.mem_of_getElem? (i := 30) rfl)
  have d283 : decode code 283 = .ok (.iadd, 1) := lwd_2 (283, .iadd, 1) (List.mem_of_getElem? (i := 31) rfl)
  have d284 : decode code 284 = .ok (.iaload, 1) := lwd_2 (284, .iaload, 1) (List.mem_of_getElem? (i := 32) rfl)
  have d285 : decode code 285 = .ok (.aload_n 0, 1) := lwd_2 (285, .aload_n 0, 1) (List.mem_of_getElem? (i := 33) rfl)
  have d286 : decode code 286 = .ok (.iload_n 3, 1) := lwd_2 (286, .iload_n 3, 1) (List.mem_of_getElem? (i := 34) rfl)
  have d287 : decode code 287 = .ok (.iconst 3, 1) := lwd_2 (287, .iconst 3, 1) (List.mem_of_getElem? (i := 35) rfl)
  have d288 : decode code 288 = .ok (.iadd, 1) := lwd_2 (288, .iadd, 1) (List.mem_of_getElem? (i := 36) rfl)
  have d289 : decode code 289 = .ok (.iaload, 1) := lwd_2 (289, .iaload, 1) (List.mem_of_getElem? (i := 37) rfl)
  have d290 : decode code 290 = .ok (.aload_n 0, 1) := lwd_2 (290, .aload_n 0, 1) (List.mem_of_getElem? (i := 38) rfl)
  have d291 : decode code 291 = .ok (.iload_n 3, 1) := lwd_2 (291, .iload_n 3, 1) (List.mem_of_getElem? (i := 39) rfl)
  have d292 : decode code 292 = .ok (.iconst 4, 1) := lwd_2 (292, .iconst 4, 1) (List.mem_of_getElem? (i := 40) rfl)
  have d293 : decode code 293 = .ok (.iadd, 1) := lwd_2 (293, .iadd, 1) (List.mem_of_getElem? (i := 41) rfl)
  have d294 : decode code 294 = .ok (.iaload, 1) := lwd_2 (294, .iaload, 1) (List.mem_of_getElem? (i := 42) rfl)
  have d295 : decode code 295 = .ok (.invokevirtual 26, 3) := lwd_2 (295, .invokevirtual 26, 3) (List.mem_of_getElem? (i := 43) rfl)
  have d298 : decode code 298 = .ok (.if_icmp .eq 874, 3) := lwd_2 (298, .if_icmp .eq 874, 3) (List.mem_of_getElem? (i := 44) rfl)
  have d301 : decode code 301 = .ok (.iconst 0, 1) := lwd_2 (301, .iconst 0, 1) (List.mem_of_getElem? (i := 45) rfl)
  have d302 : decode code 302 = .ok (.ireturn, 1) := lwd_2 (302, .ireturn, 1) (List.mem_of_getElem? (i := 46) rfl)
  obtain ⟨hx, hb, hr, hml, hown, hts, hX, hbl, hlocks, hgv⟩ := id C0
  obtain ⟨hK, hI1, hI2, hZ1, hZ2, hA1, hA2, hdis⟩ := F
  obtain ⟨hP1, hP2, hS⟩ := hW
  obtain ⟨x, μ', ν', e1, e2, hR'⟩ := ok k μ ν hk hR
  refine lv_aload_n hx hb d250 rfl (lv_at hl 1 rfl) ?_
  refine l_arg (d := 1) C0 hS hl d251 d252 d253 d254 d255 rfl (by omega) hL ?_
  refine l_arg (d := 2) C0 hS hl d256 d257 d258 d259 d260 rfl (by omega) hL ?_
  refine l_arg (d := 3) C0 hS hl d261 d262 d263 d264 d265 rfl (by omega) hL ?_
  refine l_arg (d := 4) C0 hS hl d266 d267 d268 d269 d270 rfl (by omega) hL ?_
  refine l_callV (n := 4) (w := (D, τ, LC, a1)) (c0 := 177) (as := [.int (xs (i + 1)), .int (xs (i + 2)), .int (xs (i + 3)), .int (xs (i + 4))]) (rest := []) (M' := MX9_job) (ci := 0) (C := RX9) (T := TX9) (N := 5) (A0 := fun _ => True) hx hb hml hown hts hl.1 d271 (tX9_job l D τ a1 _ _ _ e1) rfl rfl q573 q574 q575 q141 q576 (by decide +kernel) (by decide) rfl (Nat.le_of_ble_eq_true rfl) hcs hP1 hK hI1 hZ1 (by rintro q ⟨c, hc, rfl⟩; exact hA1 c hc) hS (by intro v hv; simp at hv; try (rcases hv with rfl | rfl | rfl | rfl <;> rfl); try (rcases hv with rfl | rfl | rfl <;> rfl); try (rcases hv with rfl | rfl <;> rfl); try (subst hv; rfl)) (by intro q hq; cases hq; rfl) (fun H1 locs1 hQ1 hS hkeep => ?_)
  have hP2 : va_P D gcl (gW (D, τ, LM, a2) ν) H1 := hP2.kept (fun k9 q9 h9 => by
    have hlt := (hP2 k9 q9 h9).lt
    refine hkeep _ hlt ?_
    rintro ⟨c, hc, he⟩
    have h8 : k9 < 17 := by have := (List.getElem?_eq_some_iff.mp h9).1; rw [gW_len] at this; exact this
    rw [gW_get (w := (D, τ, LM, a2)) h8] at h9
    cases h9
    exact hdis c k9 hc h8 he.symm)
  refine lv_aload_n hx hb d274 rfl (lv_at hl 2 rfl) ?_
  refine l_arg (d := 1) C0 hS hl d275 d276 d277 d278 d279 rfl (by omega) hL ?_
  refine l_arg (d := 2) C0 hS hl d280 d281 d282 d283 d284 rfl (by omega) hL ?_
  refine l_arg (d := 3) C0 hS hl d285 d286 d287 d288 d289 rfl (by omega) hL ?_
  refine l_arg (d := 4) C0 hS hl d290 d291 d292 d293 d294 rfl (by omega) hL ?_
  refine l_callV (n := 4) (w := (D, τ, LM, a2)) (c0 := 0) (as := [.int (xs (i + 1)), .int (xs (i + 2)), .int (xs (i + 3)), .int (xs (i + 4))]) (rest := [.int x]) (M' := MX10_job) (ci := 9) (C := RX10) (T := TX10) (N := 30) (A0 := fun _ => True) hx hb hml hown hts hl.1 d295 (tX10_job l D τ a2 _ _ _ e2) rfl rfl q1441 q1442 q1443 q150 q1444 (by decide +kernel) (by decide) rfl (Nat.le_of_ble_eq_true rfl) hcs hP2 hK hI2 hZ2 (by rintro q ⟨c, hc, rfl⟩; exact hA2 c hc) hS (by intro v hv; simp at hv; try (rcases hv with rfl | rfl | rfl | rfl <;> rfl); try (rcases hv with rfl | rfl | rfl <;> rfl); try (rcases hv with rfl | rfl <;> rfl); try (subst hv; rfl)) (by intro q hq; cases hq; rfl) (fun H2 locs2 hQ2 hS hkeep2 => ?_)
  have hQ1 : va_P D gcl (gW (D, τ, LC, a1) μ') H2 := hQ1.kept (fun k9 q9 h9 => by
    have hlt := (hQ1 k9 q9 h9).lt
    refine hkeep2 _ hlt ?_
    rintro ⟨c, hc, he⟩
    have h8 : k9 < 182 := by have := (List.getElem?_eq_some_iff.mp h9).1; rw [gW_len] at this; exact this
    rw [gW_get (w := (D, τ, LC, a1)) h8] at h9
    cases h9
    exact hdis k9 c h8 hc he)
  refine lv_icmp_eq (tgt := 1172) hx hb d298 (by decide) (fun _ => ?_) (fun hc => absurd rfl hc)
  exact kk _ _ μ' ν' ⟨hQ1, hQ2, hS⟩ hR'
set_option maxRecDepth 20000 in
theorem lwd_3 : ∀ e ∈ ([(303, .aload_n 1, 1), (304, .aload_n 0, 1), (305, .iload_n 3, 1), (306, .iconst 1, 1), (307, .iadd, 1), (308, .iaload, 1), (309, .aload_n 0, 1), (310, .iload_n 3, 1), (311, .iconst 2, 1), (312, .iadd, 1), (313, .iaload, 1), (314, .aload_n 0, 1), (315, .iload_n 3, 1), (316, .iconst 3, 1), (317, .iadd, 1), (318, .iaload, 1), (319, .aload_n 0, 1), (320, .iload_n 3, 1), (321, .iconst 4, 1), (322, .iadd, 1), (323, .iaload, 1), (324, .invokevirtual 27, 3), (327, .aload_n 2, 1), (328, .aload_n 0, 1), (329, .iload_n 3, 1), (330, .iconst 1, 1), (331, .iadd, 1), (332, .iaload, 1), (333, .aload_n 0, 1), (334, .iload_n 3, 1), (335, .iconst 2, 1), (336, .iadd, 1), (337, .iaload, 1), (338, .aload_n 0, 1), (339, .iload_n 3, 1), (340, .iconst 3, 1), (341, .iadd, 1), (342, .iaload, 1), (343, .aload_n 0, 1), (344, .iload_n 3, 1), (345, .iconst 4, 1), (346, .iadd, 1), (347, .iaload, 1), (348, .invokevirtual 30, 3), (351, .if_icmp .eq 821, 3), (354, .iconst 0, 1), (355, .ireturn, 1)] : List (Nat × Instr × Nat)), decode code e.1 = .ok (e.2.1, e.2.2) := by decide +kernel
set_option maxHeartbeats 2000000 in
theorem lc_3 {D : va_G} {τ : ClassId × ClassId × ClassId × ClassId} {a1 a2 : Nat → Nat} {Rl : Nat → gMem → gMem → Prop} {i k : Nat} (C0 : lw_At p s m meth c b L xs) (hL : L ≤ 2560) (F : LF D τ a1 a2 s) (hl : lv_has ls 4 [(0, .ref b), (1, .ref (a1 177)), (2, .ref (a2 0)), (3, .int (nI i))]) (hi : i + 4 < L) (hk : k < 512) (hcs : cells ≤ 600000 ∧ slots ≤ 7302250) (ok : oK Rl mX9_later mX10_later [.int (xs (i + 1)), .int (xs (i + 2)), .int (xs (i + 3)), .int (xs (i + 4))])
    (kk : ∀ (H : Heap) (locs : List Loc) (μ ν : gMem), LW D τ a1 a2 s μ ν H locs → Rl (k + 1) μ ν → W p l e room_1 s m #[Value.ref b] below meth c H locs cells slots Q (F0 m 1172 ls [])) (H : Heap) (locs : List Loc) (μ ν : gMem) (hW : LW D τ a1 a2 s μ ν H locs) (hR : Rl k μ ν) : W p l e room_1 s m #[Value.ref b] below meth c H locs cells slots Q (F0 m 303 ls []) := by
  have d303 : decode code 303 = .ok (.aload_n 1, 1) := lwd_3 (303, .aload_n 1, 1) (List.mem_of_getElem? (i := 0) rfl)
  have d304 : decode code 304 = .ok (.aload_n 0, 1) := lwd_3 (304, .aload_n 0, 1) (List.mem_of_getElem? (i := 1) rfl)
  have d305 : decode code 305 = .ok (.iload_n 3, 1) := lwd_3 (305, .iload_n 3, 1) (List.mem_of_getElem? (i := 2) rfl)
  have d306 : decode code 306 = .ok (.iconst 1, 1) := lwd_3 (306, .iconst 1, 1) (List.mem_of_getElem? (i := 3) rfl)
  have d307 : decode code 307 = .ok (.iadd, 1) := lwd_3 (307, .iadd, 1) (List.mem_of_getElem? (i := 4) rfl)
  have d308 : decode code 308 = .ok (.iaload, 1) := lwd_3 (308, .iaload, 1) (List.mem_of_getElem? (i := 5) rfl)
  have d309 : decode code 309 = .ok (.aload_n 0, 1) := lwd_3 (309, .aload_n 0, 1) (List.mem_of_getElem? (i := 6) rfl)
  have d310 : decode code 310 = .ok (.iload_n 3, 1) := lwd_3 (310, .iload_n 3, 1) (List.mem_of_getElem? (i := 7) rfl)
  have d311 : decode code 311 = .ok (.iconst 2, 1) := lwd_3 (311, .iconst 2, 1) (List.mem_of_getElem? (i := 8) rfl)
  have d312 : decode code 312 = .ok (.iadd, 1) := lwd_3 (312, .iadd, 1) (List.mem_of_getElem? (i := 9) rfl)
  have d313 : decode code 313 = .ok (.iaload, 1) := lwd_3 (313, .iaload, 1) (List.mem_of_getElem? (i := 10) rfl)
  have d314 : decode code 314 = .ok (.aload_n 0, 1) := lwd_3 (314, .aload_n 0, 1) (List.mem_of_getElem? (i := 11) rfl)
  have d315 : decode code 315 = .ok (.iload_n 3, 1) := lwd_3 (315, .iload_n 3, 1) (List.mem_of_getElem? (i := 12) rfl)
  have d316 : decode code 316 = .ok (.iconst 3, 1) := lwd_3 (316, .iconst 3, 1) (List.mem_of_getElem? (i := 13) rfl)
  have d317 : decode code 317 = .ok (.iadd, 1) := lwd_3 (317, .iadd, 1) (List.mem_of_getElem? (i := 14) rfl)
  have d318 : decode code 318 = .ok (.iaload, 1) := lwd_3 (318, .iaload, 1) (List.mem_of_getElem? (i := 15) rfl)
  have d319 : decode code 319 = .ok (.aload_n 0, 1) := lwd_3 (319, .aload_n 0, 1) (List.mem_of_getElem? (i := 16) rfl)
  have d320 : decode code 320 = .ok (.iload_n 3, 1) := lwd_3 (320, .iload_n 3, 1) (List.mem_of_getElem? (i := 17) rfl)
  have d321 : decode code 321 = .ok (.iconst 4, 1) := lwd_3 (321, .iconst 4, 1) (List.mem_of_getElem? (i := 18) rfl)
  have d322 : decode code 322 = .ok (.iadd, 1) := lwd_3 (322, .iadd, 1) (List.mem_of_getElem? (i := 19) rfl)
  have d323 : decode code 323 = .ok (.iaload, 1) := lwd_3 (323, .iaload, 1) (List.mem_of_getElem? (i := 20) rfl)
  have d324 : decode code 324 = .ok (.invokevirtual 27, 3) := lwd_3 (324, .invokevirtual 27, 3) (List.mem_of_getElem? (i := 21) rfl)
  have d327 : decode code 327 = .ok (.aload_n 2, 1) := lwd_3 (327, .aload_n 2, 1) (List.mem_of_getElem? (i := 22) rfl)
  have d328 : decode code 328 = .ok (.aload_n 0, 1) := lwd_3 (328, .aload_n 0, 1) (List.mem_of_getElem? (i := 23) rfl)
  have d329 : decode code 329 = .ok (.iload_n 3, 1) := lwd_3 (329, .iload_n 3, 1) (List.mem_of_getElem? (i := 24) rfl)
  have d330 : decode code 330 = .ok (.iconst 1, 1) := lwd_3 (330, .iconst 1, 1) (List.mem_of_getElem? (i := 25) rfl)
  have d331 : decode code 331 = .ok (.iadd, 1) := lwd_3 (331, .iadd, 1) (List.mem_of_getElem? (i := 26) rfl)
  have d332 : decode code 332 = .ok (.iaload, 1) := lwd_3 (332, .iaload, 1) (List.mem_of_getElem? (i := 27) rfl)
  have d333 : decode code 333 = .ok (.aload_n 0, 1) := lwd_3 (333, .aload_n 0, 1) (List.mem_of_getElem? (i := 28) rfl)
  have d334 : decode code 334 = .ok (.iload_n 3, 1) := lwd_3 (334, .iload_n 3, 1) (List.mem_of_getElem? (i := 29) rfl)
  have d335 : decode code 335 = .ok (.iconst 2, 1) := lwd_3 (335, .iconst 2, 1) (List.mem_of_getElem? (i := 30) rfl)
  have d336 : decode code 336 = .ok (.iadd, 1) := lwd_3 (336, .iadd, 1) (List.mem_of_getElem? (i := 31) rfl)
  have d337 : decode code 337 = .ok (.iaload, 1) := lwd_3 (337, .iaload, 1) (List.mem_of_getElem? (i := 32) rfl)
  have d338 : decode code 338 = .ok (.aload_n 0, 1) := lwd_3 (338, .aload_n 0, 1) (List.mem_of_getElem? (i := 33) rfl)
  have d339 : decode code 339 = .ok (.iload_n 3, 1) := lwd_3 (339, .iload_n 3, 1) (List.mem_of_getElem? (i := 34) rfl)
  have d340 : decode code 340 = .ok (.iconst 3, 1) := lwd_3 (340, .iconst 3, 1) (List.mem_of_getElem? (i := 35) rfl)
  have d341 : decode code 341 = .ok (.iadd, 1) := lwd_3 (341, .iadd, 1) (List.mem_of_getElem? (i := 36) rfl)
  have d342 : decode code 342 = .ok (.iaload, 1) := lwd_3 (342, .iaload, 1) (List.mem_of_getElem? (i := 37) rfl)
  have d343 : decode code 343 = .ok (.aload_n 0, 1) := lwd_3 (343, .aload_n 0, 1) (List.mem_of_getElem? (i := 38) rfl)
  have d344 : decode code 344 = .ok (.iload_n 3, 1) := lwd_3 (344, .iload_n 3, 1) (List.mem_of_getElem? (i := 39) rfl)
  have d345 : decode code 345 = .ok (.iconst 4, 1) := lwd_3 (345, .iconst 4, 1) (List.mem_of_getElem? (i := 40) rfl)
  have d346 : decode code 346 = .ok (.iadd, 1) := lwd_3 (346, .iadd, 1) (List.mem_of_getElem? (i := 41) rfl)
  have d347 : decode code 347 = .ok (.iaload, 1) := lwd_3 (347, .iaload, 1) (List.mem_of_getElem? (i := 42) rfl)
  have d348 : decode code 348 = .ok (.invokevirtual 30, 3) := lwd_3 (348, .invokevirtual 30, 3) (List.mem_of_getElem? (i := 43) rfl)
  have d351 : decode code 351 = .ok (.if_icmp .eq 821, 3) := lwd_3 (351, .if_icmp .eq 821, 3) (List.mem_of_getElem? (i := 44) rfl)
  have d354 : decode code 354 = .ok (.iconst 0, 1) := lwd_3 (354, .iconst 0, 1) (List.mem_of_getElem? (i := 45) rfl)
  have d355 : decode code 355 = .ok (.ireturn, 1) := lwd_3 (355, .ireturn, 1) (List.mem_of_getElem? (i := 46) rfl)
  obtain ⟨hx, hb, hr, hml, hown, hts, hX, hbl, hlocks, hgv⟩ := id C0
  obtain ⟨hK, hI1, hI2, hZ1, hZ2, hA1, hA2, hdis⟩ := F
  obtain ⟨hP1, hP2, hS⟩ := hW
  obtain ⟨x, μ', ν', e1, e2, hR'⟩ := ok k μ ν hk hR
  refine lv_aload_n hx hb d303 rfl (lv_at hl 1 rfl) ?_
  refine l_arg (d := 1) C0 hS hl d304 d305 d306 d307 d308 rfl (by omega) hL ?_
  refine l_arg (d := 2) C0 hS hl d309 d310 d311 d312 d313 rfl (by omega) hL ?_
  refine l_arg (d := 3) C0 hS hl d314 d315 d316 d317 d318 rfl (by omega) hL ?_
  refine l_arg (d := 4) C0 hS hl d319 d320 d321 d322 d323 rfl (by omega) hL ?_
  refine l_callV (n := 4) (w := (D, τ, LC, a1)) (c0 := 177) (as := [.int (xs (i + 1)), .int (xs (i + 2)), .int (xs (i + 3)), .int (xs (i + 4))]) (rest := []) (M' := MX9_later) (ci := 0) (C := RX9) (T := TX9) (N := 5) (A0 := fun _ => True) hx hb hml hown hts hl.1 d324 (tX9_later l D τ a1 _ _ _ e1) rfl rfl q606 q607 q608 q141 q609 (by decide +kernel) (by decide) rfl (Nat.le_of_ble_eq_true rfl) hcs hP1 hK hI1 hZ1 (by rintro q ⟨c, hc, rfl⟩; exact hA1 c hc) hS (by intro v hv; simp at hv; try (rcases hv with rfl | rfl | rfl | rfl <;> rfl); try (rcases hv with rfl | rfl | rfl <;> rfl); try (rcases hv with rfl | rfl <;> rfl); try (subst hv; rfl)) (by intro q hq; cases hq; rfl) (fun H1 locs1 hQ1 hS hkeep => ?_)
  have hP2 : va_P D gcl (gW (D, τ, LM, a2) ν) H1 := hP2.kept (fun k9 q9 h9 => by
    have hlt := (hP2 k9 q9 h9).lt
    refine hkeep _ hlt ?_
    rintro ⟨c, hc, he⟩
    have h8 : k9 < 17 := by have := (List.getElem?_eq_some_iff.mp h9).1; rw [gW_len] at this; exact this
    rw [gW_get (w := (D, τ, LM, a2)) h8] at h9
    cases h9
    exact hdis c k9 hc h8 he.symm)
  refine lv_aload_n hx hb d327 rfl (lv_at hl 2 rfl) ?_
  refine l_arg (d := 1) C0 hS hl d328 d329 d330 d331 d332 rfl (by omega) hL ?_
  refine l_arg (d := 2) C0 hS hl d333 d334 d335 d336 d337 rfl (by omega) hL ?_
  refine l_arg (d := 3) C0 hS hl d338 d339 d340 d341 d342 rfl (by omega) hL ?_
  refine l_arg (d := 4) C0 hS hl d343 d344 d345 d346 d347 rfl (by omega) hL ?_
  refine l_callV (n := 4) (w := (D, τ, LM, a2)) (c0 := 0) (as := [.int (xs (i + 1)), .int (xs (i + 2)), .int (xs (i + 3)), .int (xs (i + 4))]) (rest := [.int x]) (M' := MX10_later) (ci := 9) (C := RX10) (T := TX10) (N := 30) (A0 := fun _ => True) hx hb hml hown hts hl.1 d348 (tX10_later l D τ a2 _ _ _ e2) rfl rfl q1461 q1462 q1463 q150 q1464 (by decide +kernel) (by decide) rfl (Nat.le_of_ble_eq_true rfl) hcs hP2 hK hI2 hZ2 (by rintro q ⟨c, hc, rfl⟩; exact hA2 c hc) hS (by intro v hv; simp at hv; try (rcases hv with rfl | rfl | rfl | rfl <;> rfl); try (rcases hv with rfl | rfl | rfl <;> rfl); try (rcases hv with rfl | rfl <;> rfl); try (subst hv; rfl)) (by intro q hq; cases hq; rfl) (fun H2 locs2 hQ2 hS hkeep2 => ?_)
  have hQ1 : va_P D gcl (gW (D, τ, LC, a1) μ') H2 := hQ1.kept (fun k9 q9 h9 => by
    have hlt := (hQ1 k9 q9 h9).lt
    refine hkeep2 _ hlt ?_
    rintro ⟨c, hc, he⟩
    have h8 : k9 < 182 := by have := (List.getElem?_eq_some_iff.mp h9).1; rw [gW_len] at this; exact this
    rw [gW_get (w := (D, τ, LC, a1)) h8] at h9
    cases h9
    exact hdis k9 c h8 hc he)
  refine lv_icmp_eq (tgt := 1172) hx hb d351 (by decide) (fun _ => ?_) (fun hc => absurd rfl hc)
  exact kk _ _ μ' ν' ⟨hQ1, hQ2, hS⟩ hR'
set_option maxRecDepth 20000 in
theorem lwd_4 : ∀ e ∈ ([(356, .aload_n 1, 1), (357, .aload_n 0, 1), (358, .iload_n 3, 1), (359, .iconst 1, 1), (360, .iadd, 1), (361, .iaload, 1), (362, .invokevirtual 31, 3), (365, .aload_n 2, 1), (366, .aload_n 0, 1), (367, .iload_n 3, 1), (368, .iconst 1, 1), (369, .iadd, 1), (370, .iaload, 1), (371, .invokevirtual 35, 3), (374, .if_icmp .eq 798, 3), (377, .iconst 0, 1), (378, .ireturn, 1)] : List (Nat × Instr × Nat)), decode code e.1 = .ok (e.2.1, e.2.2) := by decide +kernel
set_option maxHeartbeats 2000000 in
theorem lc_4 {D : va_G} {τ : ClassId × ClassId × ClassId × ClassId} {a1 a2 : Nat → Nat} {Rl : Nat → gMem → gMem → Prop} {i k : Nat} (C0 : lw_At p s m meth c b L xs) (hL : L ≤ 2560) (F : LF D τ a1 a2 s) (hl : lv_has ls 4 [(0, .ref b), (1, .ref (a1 177)), (2, .ref (a2 0)), (3, .int (nI i))]) (hi : i + 4 < L) (hk : k < 512) (hcs : cells ≤ 600000 ∧ slots ≤ 7302250) (ok : oK Rl mX9_kill mX10_kill [.int (xs (i + 1))])
    (kk : ∀ (H : Heap) (locs : List Loc) (μ ν : gMem), LW D τ a1 a2 s μ ν H locs → Rl (k + 1) μ ν → W p l e room_1 s m #[Value.ref b] below meth c H locs cells slots Q (F0 m 1172 ls [])) (H : Heap) (locs : List Loc) (μ ν : gMem) (hW : LW D τ a1 a2 s μ ν H locs) (hR : Rl k μ ν) : W p l e room_1 s m #[Value.ref b] below meth c H locs cells slots Q (F0 m 356 ls []) := by
  have d356 : decode code 356 = .ok (.aload_n 1, 1) := lwd_4 (356, .aload_n 1, 1) (List.mem_of_getElem? (i := 0) rfl)
  have d357 : decode code 357 = .ok (.aload_n 0, 1) := lwd_4 (357, .aload_n 0, 1) (List.mem_of_getElem? (i := 1) rfl)
  have d358 : decode code 358 = .ok (.iload_n 3, 1) := lwd_4 (358, .iload_n 3, 1) (List.mem_of_getElem? (i := 2) rfl)
  have d359 : decode code 359 = .ok (.iconst 1, 1) := lwd_4 (359, .iconst 1, 1) (List.mem_of_getElem? (i := 3) rfl)
  have d360 : decode code 360 = .ok (.iadd, 1) := lwd_4 (360, .iadd, 1) (List.mem_of_getElem? (i := 4) rfl)
  have d361 : decode code 361 = .ok (.iaload, 1) := lwd_4 (361, .iaload, 1) (List.mem_of_getElem? (i := 5) rfl)
  have d362 : decode code 362 = .ok (.invokevirtual 31, 3) := lwd_4 (362, .invokevirtual 31, 3) (List.mem_of_getElem? (i := 6) rfl)
  have d365 : decode code 365 = .ok (.aload_n 2, 1) := lwd_4 (365, .aload_n 2, 1) (List.mem_of_getElem? (i := 7) rfl)
  have d366 : decode code 366 = .ok (.aload_n 0, 1) := lwd_4 (366, .aload_n 0, 1) (List.mem_of_getElem? (i := 8) rfl)
  have d367 : decode code 367 = .ok (.iload_n 3, 1) := lwd_4 (367, .iload_n 3, 1) (List.mem_of_getElem? (i := 9) rfl)
  have d368 : decode code 368 = .ok (.iconst 1, 1) := lwd_4 (368, .iconst 1, 1) (List.mem_of_getElem? (i := 10) rfl)
  have d369 : decode code 369 = .ok (.iadd, 1) := lwd_4 (369, .iadd, 1) (List.mem_of_getElem? (i := 11) rfl)
  have d370 : decode code 370 = .ok (.iaload, 1) := lwd_4 (370, .iaload, 1) (List.mem_of_getElem? (i := 12) rfl)
  have d371 : decode code 371 = .ok (.invokevirtual 35, 3) := lwd_4 (371, .invokevirtual 35, 3) (List.mem_of_getElem? (i := 13) rfl)
  have d374 : decode code 374 = .ok (.if_icmp .eq 798, 3) := lwd_4 (374, .if_icmp .eq 798, 3) (List.mem_of_getElem? (i := 14) rfl)
  have d377 : decode code 377 = .ok (.iconst 0, 1) := lwd_4 (377, .iconst 0, 1) (List.mem_of_getElem? (i := 15) rfl)
  have d378 : decode code 378 = .ok (.ireturn, 1) := lwd_4 (378, .ireturn, 1) (List.mem_of_getElem? (i := 16) rfl)
  obtain ⟨hx, hb, hr, hml, hown, hts, hX, hbl, hlocks, hgv⟩ := id C0
  obtain ⟨hK, hI1, hI2, hZ1, hZ2, hA1, hA2, hdis⟩ := F
  obtain ⟨hP1, hP2, hS⟩ := hW
  obtain ⟨x, μ', ν', e1, e2, hR'⟩ := ok k μ ν hk hR
  refine lv_aload_n hx hb d356 rfl (lv_at hl 1 rfl) ?_
  refine l_arg (d := 1) C0 hS hl d357 d358 d359 d360 d361 rfl (by omega) hL ?_
  refine l_callV (n := 1) (w := (D, τ, LC, a1)) (c0 := 177) (as := [.int (xs (i + 1))]) (rest := []) (M' := MX9_kill) (ci := 0) (C := RX9) (T := TX9) (N := 5) (A0 := fun _ => True) hx hb hml hown hts hl.1 d362 (tX9_kill l D τ a1 _ _ _ e1) rfl rfl q615 q616 q617 q141 q618 (by decide +kernel) (by decide) rfl (Nat.le_of_ble_eq_true rfl) hcs hP1 hK hI1 hZ1 (by rintro q ⟨c, hc, rfl⟩; exact hA1 c hc) hS (by intro v hv; simp at hv; try (rcases hv with rfl | rfl | rfl | rfl <;> rfl); try (rcases hv with rfl | rfl | rfl <;> rfl); try (rcases hv with rfl | rfl <;> rfl); try (subst hv; rfl)) (by intro q hq; cases hq; rfl) (fun H1 locs1 hQ1 hS hkeep => ?_)
  have hP2 : va_P D gcl (gW (D, τ, LM, a2) ν) H1 := hP2.kept (fun k9 q9 h9 => by
    have hlt := (hP2 k9 q9 h9).lt
    refine hkeep _ hlt ?_
    rintro ⟨c, hc, he⟩
    have h8 : k9 < 17 := by have := (List.getElem?_eq_some_iff.mp h9).1; rw [gW_len] at this; exact this
    rw [gW_get (w := (D, τ, LM, a2)) h8] at h9
    cases h9
    exact hdis c k9 hc h8 he.symm)
  refine lv_aload_n hx hb d365 rfl (lv_at hl 2 rfl) ?_
  refine l_arg (d := 1) C0 hS hl d366 d367 d368 d369 d370 rfl (by omega) hL ?_
  refine l_callV (n := 1) (w := (D, τ, LM, a2)) (c0 := 0) (as := [.int (xs (i + 1))]) (rest := [.int x]) (M' := MX10_kill) (ci := 9) (C := RX10) (T := TX10) (N := 30) (A0 := fun _ => True) hx hb hml hown hts hl.1 d371 (tX10_kill l D τ a2 _ _ _ e2) rfl rfl q1470 q1471 q1472 q150 q1473 (by decide +kernel) (by decide) rfl (Nat.le_of_ble_eq_true rfl) hcs hP2 hK hI2 hZ2 (by rintro q ⟨c, hc, rfl⟩; exact hA2 c hc) hS (by intro v hv; simp at hv; try (rcases hv with rfl | rfl | rfl | rfl <;> rfl); try (rcases hv with rfl | rfl | rfl <;> rfl); try (rcases hv with rfl | rfl <;> rfl); try (subst hv; rfl)) (by intro q hq; cases hq; rfl) (fun H2 locs2 hQ2 hS hkeep2 => ?_)
  have hQ1 : va_P D gcl (gW (D, τ, LC, a1) μ') H2 := hQ1.kept (fun k9 q9 h9 => by
    have hlt := (hQ1 k9 q9 h9).lt
    refine hkeep2 _ hlt ?_
    rintro ⟨c, hc, he⟩
    have h8 : k9 < 182 := by have := (List.getElem?_eq_some_iff.mp h9).1; rw [gW_len] at this; exact this
    rw [gW_get (w := (D, τ, LC, a1)) h8] at h9
    cases h9
    exact hdis k9 c h8 hc he)
  refine lv_icmp_eq (tgt := 1172) hx hb d374 (by decide) (fun _ => ?_) (fun hc => absurd rfl hc)
  exact kk _ _ μ' ν' ⟨hQ1, hQ2, hS⟩ hR'
set_option maxRecDepth 20000 in
theorem lwd_5 : ∀ e ∈ ([(379, .aload_n 1, 1), (380, .aload_n 0, 1), (381, .iload_n 3, 1), (382, .iconst 1, 1), (383, .iadd, 1), (384, .iaload, 1), (385, .invokevirtual 36, 3), (388, .aload_n 2, 1), (389, .aload_n 0, 1), (390, .iload_n 3, 1), (391, .iconst 1, 1), (392, .iadd, 1), (393, .iaload, 1), (394, .invokevirtual 39, 3), (397, .if_icmp .eq 775, 3), (400, .iconst 0, 1), (401, .ireturn, 1)] : List (Nat × Instr × Nat)), decode code e.1 = .ok (e.2.1, e.2.2) := by decide +kernel
set_option maxHeartbeats 2000000 in
theorem lc_5 {D : va_G} {τ : ClassId × ClassId × ClassId × ClassId} {a1 a2 : Nat → Nat} {Rl : Nat → gMem → gMem → Prop} {i k : Nat} (C0 : lw_At p s m meth c b L xs) (hL : L ≤ 2560) (F : LF D τ a1 a2 s) (hl : lv_has ls 4 [(0, .ref b), (1, .ref (a1 177)), (2, .ref (a2 0)), (3, .int (nI i))]) (hi : i + 4 < L) (hk : k < 512) (hcs : cells ≤ 600000 ∧ slots ≤ 7302250) (ok : oK Rl mX9_quantum mX10_quantum [.int (xs (i + 1))])
    (kk : ∀ (H : Heap) (locs : List Loc) (μ ν : gMem), LW D τ a1 a2 s μ ν H locs → Rl (k + 1) μ ν → W p l e room_1 s m #[Value.ref b] below meth c H locs cells slots Q (F0 m 1172 ls [])) (H : Heap) (locs : List Loc) (μ ν : gMem) (hW : LW D τ a1 a2 s μ ν H locs) (hR : Rl k μ ν) : W p l e room_1 s m #[Value.ref b] below meth c H locs cells slots Q (F0 m 379 ls []) := by
  have d379 : decode code 379 = .ok (.aload_n 1, 1) := lwd_5 (379, .aload_n 1, 1) (List.mem_of_getElem? (i := 0) rfl)
  have d380 : decode code 380 = .ok (.aload_n 0, 1) := lwd_5 (380, .aload_n 0, 1) (List.mem_of_getElem? (i := 1) rfl)
  have d381 : decode code 381 = .ok (.iload_n 3, 1) := lwd_5 (381, .iload_n 3, 1) (List.mem_of_getElem? (i := 2) rfl)
  have d382 : decode code 382 = .ok (.iconst 1, 1) := lwd_5 (382, .iconst 1, 1) (List.mem_of_getElem? (i := 3) rfl)
  have d383 : decode code 383 = .ok (.iadd, 1) := lwd_5 (383, .iadd, 1) (List.mem_of_getElem? (i := 4) rfl)
  have d384 : decode code 384 = .ok (.iaload, 1) := lwd_5 (384, .iaload, 1) (List.mem_of_getElem? (i := 5) rfl)
  have d385 : decode code 385 = .ok (.invokevirtual 36, 3) := lwd_5 (385, .invokevirtual 36, 3) (List.mem_of_getElem? (i := 6) rfl)
  have d388 : decode code 388 = .ok (.aload_n 2, 1) := lwd_5 (388, .aload_n 2, 1) (List.mem_of_getElem? (i := 7) rfl)
  have d389 : decode code 389 = .ok (.aload_n 0, 1) := lwd_5 (389, .aload_n 0, 1) (List.mem_of_getElem? (i := 8) rfl)
  have d390 : decode code 390 = .ok (.iload_n 3, 1) := lwd_5 (390, .iload_n 3, 1) (List.mem_of_getElem? (i := 9) rfl)
  have d391 : decode code 391 = .ok (.iconst 1, 1) := lwd_5 (391, .iconst 1, 1) (List.mem_of_getElem? (i := 10) rfl)
  have d392 : decode code 392 = .ok (.iadd, 1) := lwd_5 (392, .iadd, 1) (List.mem_of_getElem? (i := 11) rfl)
  have d393 : decode code 393 = .ok (.iaload, 1) := lwd_5 (393, .iaload, 1) (List.mem_of_getElem? (i := 12) rfl)
  have d394 : decode code 394 = .ok (.invokevirtual 39, 3) := lwd_5 (394, .invokevirtual 39, 3) (List.mem_of_getElem? (i := 13) rfl)
  have d397 : decode code 397 = .ok (.if_icmp .eq 775, 3) := lwd_5 (397, .if_icmp .eq 775, 3) (List.mem_of_getElem? (i := 14) rfl)
  have d400 : decode code 400 = .ok (.iconst 0, 1) := lwd_5 (400, .iconst 0, 1) (List.mem_of_getElem? (i := 15) rfl)
  have d401 : decode code 401 = .ok (.ireturn, 1) := lwd_5 (401, .ireturn, 1) (List.mem_of_getElem? (i := 16) rfl)
  obtain ⟨hx, hb, hr, hml, hown, hts, hX, hbl, hlocks, hgv⟩ := id C0
  obtain ⟨hK, hI1, hI2, hZ1, hZ2, hA1, hA2, hdis⟩ := F
  obtain ⟨hP1, hP2, hS⟩ := hW
  obtain ⟨x, μ', ν', e1, e2, hR'⟩ := ok k μ ν hk hR
  refine lv_aload_n hx hb d379 rfl (lv_at hl 1 rfl) ?_
  refine l_arg (d := 1) C0 hS hl d380 d381 d382 d383 d384 rfl (by omega) hL ?_
  refine l_callV (n := 1) (w := (D, τ, LC, a1)) (c0 := 177) (as := [.int (xs (i + 1))]) (rest := []) (M' := MX9_quantum) (ci := 0) (C := RX9) (T := TX9) (N := 5) (A0 := fun _ => True) hx hb hml hown hts hl.1 d385 (tX9_quantum l D τ a1 _ _ _ e1) rfl rfl q649 q650 q651 q141 q652 (by decide +kernel) (by decide) rfl (Nat.le_of_ble_eq_true rfl) hcs hP1 hK hI1 hZ1 (by rintro q ⟨c, hc, rfl⟩; exact hA1 c hc) hS (by intro v hv; simp at hv; try (rcases hv with rfl | rfl | rfl | rfl <;> rfl); try (rcases hv with rfl | rfl | rfl <;> rfl); try (rcases hv with rfl | rfl <;> rfl); try (subst hv; rfl)) (by intro q hq; cases hq; rfl) (fun H1 locs1 hQ1 hS hkeep => ?_)
  have hP2 : va_P D gcl (gW (D, τ, LM, a2) ν) H1 := hP2.kept (fun k9 q9 h9 => by
    have hlt := (hP2 k9 q9 h9).lt
    refine hkeep _ hlt ?_
    rintro ⟨c, hc, he⟩
    have h8 : k9 < 17 := by have := (List.getElem?_eq_some_iff.mp h9).1; rw [gW_len] at this; exact this
    rw [gW_get (w := (D, τ, LM, a2)) h8] at h9
    cases h9
    exact hdis c k9 hc h8 he.symm)
  refine lv_aload_n hx hb d388 rfl (lv_at hl 2 rfl) ?_
  refine l_arg (d := 1) C0 hS hl d389 d390 d391 d392 d393 rfl (by omega) hL ?_
  refine l_callV (n := 1) (w := (D, τ, LM, a2)) (c0 := 0) (as := [.int (xs (i + 1))]) (rest := [.int x]) (M' := MX10_quantum) (ci := 9) (C := RX10) (T := TX10) (N := 30) (A0 := fun _ => True) hx hb hml hown hts hl.1 d394 (tX10_quantum l D τ a2 _ _ _ e2) rfl rfl q1671 q1672 q1673 q150 q1674 (by decide +kernel) (by decide) rfl (Nat.le_of_ble_eq_true rfl) hcs hP2 hK hI2 hZ2 (by rintro q ⟨c, hc, rfl⟩; exact hA2 c hc) hS (by intro v hv; simp at hv; try (rcases hv with rfl | rfl | rfl | rfl <;> rfl); try (rcases hv with rfl | rfl | rfl <;> rfl); try (rcases hv with rfl | rfl <;> rfl); try (subst hv; rfl)) (by intro q hq; cases hq; rfl) (fun H2 locs2 hQ2 hS hkeep2 => ?_)
  have hQ1 : va_P D gcl (gW (D, τ, LC, a1) μ') H2 := hQ1.kept (fun k9 q9 h9 => by
    have hlt := (hQ1 k9 q9 h9).lt
    refine hkeep2 _ hlt ?_
    rintro ⟨c, hc, he⟩
    have h8 : k9 < 182 := by have := (List.getElem?_eq_some_iff.mp h9).1; rw [gW_len] at this; exact this
    rw [gW_get (w := (D, τ, LC, a1)) h8] at h9
    cases h9
    exact hdis k9 c h8 hc he)
  refine lv_icmp_eq (tgt := 1172) hx hb d397 (by decide) (fun _ => ?_) (fun hc => absurd rfl hc)
  exact kk _ _ μ' ν' ⟨hQ1, hQ2, hS⟩ hR'
set_option maxRecDepth 20000 in
theorem lwd_6 : ∀ e ∈ ([(402, .aload_n 1, 1), (403, .aload_n 0, 1), (404, .iload_n 3, 1), (405, .iconst 1, 1), (406, .iadd, 1), (407, .iaload, 1), (408, .invokevirtual 40, 3), (411, .aload_n 2, 1), (412, .aload_n 0, 1), (413, .iload_n 3, 1), (414, .iconst 1, 1), (415, .iadd, 1), (416, .iaload, 1), (417, .invokevirtual 44, 3), (420, .if_icmp .eq 752, 3), (423, .iconst 0, 1), (424, .ireturn, 1)] : List (Nat × Instr × Nat)), decode code e.1 = .ok (e.2.1, e.2.2) := by decide +kernel
set_option maxHeartbeats 2000000 in
theorem lc_6 {D : va_G} {τ : ClassId × ClassId × ClassId × ClassId} {a1 a2 : Nat → Nat} {Rl : Nat → gMem → gMem → Prop} {i k : Nat} (C0 : lw_At p s m meth c b L xs) (hL : L ≤ 2560) (F : LF D τ a1 a2 s) (hl : lv_has ls 4 [(0, .ref b), (1, .ref (a1 177)), (2, .ref (a2 0)), (3, .int (nI i))]) (hi : i + 4 < L) (hk : k < 512) (hcs : cells ≤ 600000 ∧ slots ≤ 7302250) (ok : oK Rl mX9_down mX10_down [.int (xs (i + 1))])
    (kk : ∀ (H : Heap) (locs : List Loc) (μ ν : gMem), LW D τ a1 a2 s μ ν H locs → Rl (k + 1) μ ν → W p l e room_1 s m #[Value.ref b] below meth c H locs cells slots Q (F0 m 1172 ls [])) (H : Heap) (locs : List Loc) (μ ν : gMem) (hW : LW D τ a1 a2 s μ ν H locs) (hR : Rl k μ ν) : W p l e room_1 s m #[Value.ref b] below meth c H locs cells slots Q (F0 m 402 ls []) := by
  have d402 : decode code 402 = .ok (.aload_n 1, 1) := lwd_6 (402, .aload_n 1, 1) (List.mem_of_getElem? (i := 0) rfl)
  have d403 : decode code 403 = .ok (.aload_n 0, 1) := lwd_6 (403, .aload_n 0, 1) (List.mem_of_getElem? (i := 1) rfl)
  have d404 : decode code 404 = .ok (.iload_n 3, 1) := lwd_6 (404, .iload_n 3, 1) (List.mem_of_getElem? (i := 2) rfl)
  have d405 : decode code 405 = .ok (.iconst 1, 1) := lwd_6 (405, .iconst 1, 1) (List.mem_of_getElem? (i := 3) rfl)
  have d406 : decode code 406 = .ok (.iadd, 1) := lwd_6 (406, .iadd, 1) (List.mem_of_getElem? (i := 4) rfl)
  have d407 : decode code 407 = .ok (.iaload, 1) := lwd_6 (407, .iaload, 1) (List.mem_of_getElem? (i := 5) rfl)
  have d408 : decode code 408 = .ok (.invokevirtual 40, 3) := lwd_6 (408, .invokevirtual 40, 3) (List.mem_of_getElem? (i := 6) rfl)
  have d411 : decode code 411 = .ok (.aload_n 2, 1) := lwd_6 (411, .aload_n 2, 1) (List.mem_of_getElem? (i := 7) rfl)
  have d412 : decode code 412 = .ok (.aload_n 0, 1) := lwd_6 (412, .aload_n 0, 1) (List.mem_of_getElem? (i := 8) rfl)
  have d413 : decode code 413 = .ok (.iload_n 3, 1) := lwd_6 (413, .iload_n 3, 1) (List.mem_of_getElem? (i := 9) rfl)
  have d414 : decode code 414 = .ok (.iconst 1, 1) := lwd_6 (414, .iconst 1, 1) (List.mem_of_getElem? (i := 10) rfl)
  have d415 : decode code 415 = .ok (.iadd, 1) := lwd_6 (415, .iadd, 1) (List.mem_of_getElem? (i := 11) rfl)
  have d416 : decode code 416 = .ok (.iaload, 1) := lwd_6 (416, .iaload, 1) (List.mem_of_getElem? (i := 12) rfl)
  have d417 : decode code 417 = .ok (.invokevirtual 44, 3) := lwd_6 (417, .invokevirtual 44, 3) (List.mem_of_getElem? (i := 13) rfl)
  have d420 : decode code 420 = .ok (.if_icmp .eq 752, 3) := lwd_6 (420, .if_icmp .eq 752, 3) (List.mem_of_getElem? (i := 14) rfl)
  have d423 : decode code 423 = .ok (.iconst 0, 1) := lwd_6 (423, .iconst 0, 1) (List.mem_of_getElem? (i := 15) rfl)
  have d424 : decode code 424 = .ok (.ireturn, 1) := lwd_6 (424, .ireturn, 1) (List.mem_of_getElem? (i := 16) rfl)
  obtain ⟨hx, hb, hr, hml, hown, hts, hX, hbl, hlocks, hgv⟩ := id C0
  obtain ⟨hK, hI1, hI2, hZ1, hZ2, hA1, hA2, hdis⟩ := F
  obtain ⟨hP1, hP2, hS⟩ := hW
  obtain ⟨x, μ', ν', e1, e2, hR'⟩ := ok k μ ν hk hR
  refine lv_aload_n hx hb d402 rfl (lv_at hl 1 rfl) ?_
  refine l_arg (d := 1) C0 hS hl d403 d404 d405 d406 d407 rfl (by omega) hL ?_
  refine l_callV (n := 1) (w := (D, τ, LC, a1)) (c0 := 177) (as := [.int (xs (i + 1))]) (rest := []) (M' := MX9_down) (ci := 0) (C := RX9) (T := TX9) (N := 5) (A0 := fun _ => True) hx hb hml hown hts hl.1 d408 (tX9_down l D τ a1 _ _ _ e1) rfl rfl q778 q779 q780 q141 q781 (by decide +kernel) (by decide) rfl (Nat.le_of_ble_eq_true rfl) hcs hP1 hK hI1 hZ1 (by rintro q ⟨c, hc, rfl⟩; exact hA1 c hc) hS (by intro v hv; simp at hv; try (rcases hv with rfl | rfl | rfl | rfl <;> rfl); try (rcases hv with rfl | rfl | rfl <;> rfl); try (rcases hv with rfl | rfl <;> rfl); try (subst hv; rfl)) (by intro q hq; cases hq; rfl) (fun H1 locs1 hQ1 hS hkeep => ?_)
  have hP2 : va_P D gcl (gW (D, τ, LM, a2) ν) H1 := hP2.kept (fun k9 q9 h9 => by
    have hlt := (hP2 k9 q9 h9).lt
    refine hkeep _ hlt ?_
    rintro ⟨c, hc, he⟩
    have h8 : k9 < 17 := by have := (List.getElem?_eq_some_iff.mp h9).1; rw [gW_len] at this; exact this
    rw [gW_get (w := (D, τ, LM, a2)) h8] at h9
    cases h9
    exact hdis c k9 hc h8 he.symm)
  refine lv_aload_n hx hb d411 rfl (lv_at hl 2 rfl) ?_
  refine l_arg (d := 1) C0 hS hl d412 d413 d414 d415 d416 rfl (by omega) hL ?_
  refine l_callV (n := 1) (w := (D, τ, LM, a2)) (c0 := 0) (as := [.int (xs (i + 1))]) (rest := [.int x]) (M' := MX10_down) (ci := 9) (C := RX10) (T := TX10) (N := 30) (A0 := fun _ => True) hx hb hml hown hts hl.1 d417 (tX10_down l D τ a2 _ _ _ e2) rfl rfl q1494 q1495 q1496 q150 q1497 (by decide +kernel) (by decide) rfl (Nat.le_of_ble_eq_true rfl) hcs hP2 hK hI2 hZ2 (by rintro q ⟨c, hc, rfl⟩; exact hA2 c hc) hS (by intro v hv; simp at hv; try (rcases hv with rfl | rfl | rfl | rfl <;> rfl); try (rcases hv with rfl | rfl | rfl <;> rfl); try (rcases hv with rfl | rfl <;> rfl); try (subst hv; rfl)) (by intro q hq; cases hq; rfl) (fun H2 locs2 hQ2 hS hkeep2 => ?_)
  have hQ1 : va_P D gcl (gW (D, τ, LC, a1) μ') H2 := hQ1.kept (fun k9 q9 h9 => by
    have hlt := (hQ1 k9 q9 h9).lt
    refine hkeep2 _ hlt ?_
    rintro ⟨c, hc, he⟩
    have h8 : k9 < 182 := by have := (List.getElem?_eq_some_iff.mp h9).1; rw [gW_len] at this; exact this
    rw [gW_get (w := (D, τ, LC, a1)) h8] at h9
    cases h9
    exact hdis k9 c h8 hc he)
  refine lv_icmp_eq (tgt := 1172) hx hb d420 (by decide) (fun _ => ?_) (fun hc => absurd rfl hc)
  exact kk _ _ μ' ν' ⟨hQ1, hQ2, hS⟩ hR'
set_option maxRecDepth 20000 in
theorem lwd_7 : ∀ e ∈ ([(425, .aload_n 1, 1), (426, .aload_n 0, 1), (427, .iload_n 3, 1), (428, .iconst 1, 1), (429, .iadd, 1), (430, .iaload, 1), (431, .invokevirtual 45, 3), (434, .aload_n 2, 1), (435, .aload_n 0, 1), (436, .iload_n 3, 1), (437, .iconst 1, 1), (438, .iadd, 1), (439, .iaload, 1), (440, .invokevirtual 48, 3), (443, .if_icmp .eq 729, 3), (446, .iconst 0, 1), (447, .ireturn, 1)] : List (Nat × Instr × Nat)), decode code e.1 = .ok (e.2.1, e.2.2) := by decide +kernel
set_option maxHeartbeats 2000000 in
theorem lc_7 {D : va_G} {τ : ClassId × ClassId × ClassId × ClassId} {a1 a2 : Nat → Nat} {Rl : Nat → gMem → gMem → Prop} {i k : Nat} (C0 : lw_At p s m meth c b L xs) (hL : L ≤ 2560) (F : LF D τ a1 a2 s) (hl : lv_has ls 4 [(0, .ref b), (1, .ref (a1 177)), (2, .ref (a2 0)), (3, .int (nI i))]) (hi : i + 4 < L) (hk : k < 512) (hcs : cells ≤ 600000 ∧ slots ≤ 7302250) (ok : oK Rl mX9_up mX10_up [.int (xs (i + 1))])
    (kk : ∀ (H : Heap) (locs : List Loc) (μ ν : gMem), LW D τ a1 a2 s μ ν H locs → Rl (k + 1) μ ν → W p l e room_1 s m #[Value.ref b] below meth c H locs cells slots Q (F0 m 1172 ls [])) (H : Heap) (locs : List Loc) (μ ν : gMem) (hW : LW D τ a1 a2 s μ ν H locs) (hR : Rl k μ ν) : W p l e room_1 s m #[Value.ref b] below meth c H locs cells slots Q (F0 m 425 ls []) := by
  have d425 : decode code 425 = .ok (.aload_n 1, 1) := lwd_7 (425, .aload_n 1, 1) (List.mem_of_getElem? (i := 0) rfl)
  have d426 : decode code 426 = .ok (.aload_n 0, 1) := lwd_7 (426, .aload_n 0, 1) (List.mem_of_getElem? (i := 1) rfl)
  have d427 : decode code 427 = .ok (.iload_n 3, 1) := lwd_7 (427, .iload_n 3, 1) (List.mem_of_getElem? (i := 2) rfl)
  have d428 : decode code 428 = .ok (.iconst 1, 1) := lwd_7 (428, .iconst 1, 1) (List.mem_of_getElem? (i := 3) rfl)
  have d429 : decode code 429 = .ok (.iadd, 1) := lwd_7 (429, .iadd, 1) (List.mem_of_getElem? (i := 4) rfl)
  have d430 : decode code 430 = .ok (.iaload, 1) := lwd_7 (430, .iaload, 1) (List.mem_of_getElem? (i := 5) rfl)
  have d431 : decode code 431 = .ok (.invokevirtual 45, 3) := lwd_7 (431, .invokevirtual 45, 3) (List.mem_of_getElem? (i := 6) rfl)
  have d434 : decode code 434 = .ok (.aload_n 2, 1) := lwd_7 (434, .aload_n 2, 1) (List.mem_of_getElem? (i := 7) rfl)
  have d435 : decode code 435 = .ok (.aload_n 0, 1) := lwd_7 (435, .aload_n 0, 1) (List.mem_of_getElem? (i := 8) rfl)
  have d436 : decode code 436 = .ok (.iload_n 3, 1) := lwd_7 (436, .iload_n 3, 1) (List.mem_of_getElem? (i := 9) rfl)
  have d437 : decode code 437 = .ok (.iconst 1, 1) := lwd_7 (437, .iconst 1, 1) (List.mem_of_getElem? (i := 10) rfl)
  have d438 : decode code 438 = .ok (.iadd, 1) := lwd_7 (438, .iadd, 1) (List.mem_of_getElem? (i := 11) rfl)
  have d439 : decode code 439 = .ok (.iaload, 1) := lwd_7 (439, .iaload, 1) (List.mem_of_getElem? (i := 12) rfl)
  have d440 : decode code 440 = .ok (.invokevirtual 48, 3) := lwd_7 (440, .invokevirtual 48, 3) (List.mem_of_getElem? (i := 13) rfl)
  have d443 : decode code 443 = .ok (.if_icmp .eq 729, 3) := lwd_7 (443, .if_icmp .eq 729, 3) (List.mem_of_getElem? (i := 14) rfl)
  have d446 : decode code 446 = .ok (.iconst 0, 1) := lwd_7 (446, .iconst 0, 1) (List.mem_of_getElem? (i := 15) rfl)
  have d447 : decode code 447 = .ok (.ireturn, 1) := lwd_7 (447, .ireturn, 1) (List.mem_of_getElem? (i := 16) rfl)
  obtain ⟨hx, hb, hr, hml, hown, hts, hX, hbl, hlocks, hgv⟩ := id C0
  obtain ⟨hK, hI1, hI2, hZ1, hZ2, hA1, hA2, hdis⟩ := F
  obtain ⟨hP1, hP2, hS⟩ := hW
  obtain ⟨x, μ', ν', e1, e2, hR'⟩ := ok k μ ν hk hR
  refine lv_aload_n hx hb d425 rfl (lv_at hl 1 rfl) ?_
  refine l_arg (d := 1) C0 hS hl d426 d427 d428 d429 d430 rfl (by omega) hL ?_
  refine l_callV (n := 1) (w := (D, τ, LC, a1)) (c0 := 177) (as := [.int (xs (i + 1))]) (rest := []) (M' := MX9_up) (ci := 0) (C := RX9) (T := TX9) (N := 5) (A0 := fun _ => True) hx hb hml hown hts hl.1 d431 (tX9_up l D τ a1 _ _ _ e1) rfl rfl q806 q807 q808 q141 q809 (by decide +kernel) (by decide) rfl (Nat.le_of_ble_eq_true rfl) hcs hP1 hK hI1 hZ1 (by rintro q ⟨c, hc, rfl⟩; exact hA1 c hc) hS (by intro v hv; simp at hv; try (rcases hv with rfl | rfl | rfl | rfl <;> rfl); try (rcases hv with rfl | rfl | rfl <;> rfl); try (rcases hv with rfl | rfl <;> rfl); try (subst hv; rfl)) (by intro q hq; cases hq; rfl) (fun H1 locs1 hQ1 hS hkeep => ?_)
  have hP2 : va_P D gcl (gW (D, τ, LM, a2) ν) H1 := hP2.kept (fun k9 q9 h9 => by
    have hlt := (hP2 k9 q9 h9).lt
    refine hkeep _ hlt ?_
    rintro ⟨c, hc, he⟩
    have h8 : k9 < 17 := by have := (List.getElem?_eq_some_iff.mp h9).1; rw [gW_len] at this; exact this
    rw [gW_get (w := (D, τ, LM, a2)) h8] at h9
    cases h9
    exact hdis c k9 hc h8 he.symm)
  refine lv_aload_n hx hb d434 rfl (lv_at hl 2 rfl) ?_
  refine l_arg (d := 1) C0 hS hl d435 d436 d437 d438 d439 rfl (by omega) hL ?_
  refine l_callV (n := 1) (w := (D, τ, LM, a2)) (c0 := 0) (as := [.int (xs (i + 1))]) (rest := [.int x]) (M' := MX10_up) (ci := 9) (C := RX10) (T := TX10) (N := 30) (A0 := fun _ => True) hx hb hml hown hts hl.1 d440 (tX10_up l D τ a2 _ _ _ e2) rfl rfl q1510 q1511 q1512 q150 q1513 (by decide +kernel) (by decide) rfl (Nat.le_of_ble_eq_true rfl) hcs hP2 hK hI2 hZ2 (by rintro q ⟨c, hc, rfl⟩; exact hA2 c hc) hS (by intro v hv; simp at hv; try (rcases hv with rfl | rfl | rfl | rfl <;> rfl); try (rcases hv with rfl | rfl | rfl <;> rfl); try (rcases hv with rfl | rfl <;> rfl); try (subst hv; rfl)) (by intro q hq; cases hq; rfl) (fun H2 locs2 hQ2 hS hkeep2 => ?_)
  have hQ1 : va_P D gcl (gW (D, τ, LC, a1) μ') H2 := hQ1.kept (fun k9 q9 h9 => by
    have hlt := (hQ1 k9 q9 h9).lt
    refine hkeep2 _ hlt ?_
    rintro ⟨c, hc, he⟩
    have h8 : k9 < 182 := by have := (List.getElem?_eq_some_iff.mp h9).1; rw [gW_len] at this; exact this
    rw [gW_get (w := (D, τ, LC, a1)) h8] at h9
    cases h9
    exact hdis k9 c h8 hc he)
  refine lv_icmp_eq (tgt := 1172) hx hb d443 (by decide) (fun _ => ?_) (fun hc => absurd rfl hc)
  exact kk _ _ μ' ν' ⟨hQ1, hQ2, hS⟩ hR'
set_option maxRecDepth 20000 in
theorem lwd_8 : ∀ e ∈ ([(448, .aload_n 1, 1), (449, .invokevirtual 49, 3), (452, .aload_n 2, 1), (453, .invokevirtual 53, 3), (456, .if_icmp .eq 716, 3), (459, .iconst 0, 1), (460, .ireturn, 1)] : List (Nat × Instr × Nat)), decode code e.1 = .ok (e.2.1, e.2.2) := by decide +kernel
set_option maxHeartbeats 2000000 in
theorem lc_8 {D : va_G} {τ : ClassId × ClassId × ClassId × ClassId} {a1 a2 : Nat → Nat} {Rl : Nat → gMem → gMem → Prop} {i k : Nat} (C0 : lw_At p s m meth c b L xs) (hL : L ≤ 2560) (F : LF D τ a1 a2 s) (hl : lv_has ls 4 [(0, .ref b), (1, .ref (a1 177)), (2, .ref (a2 0)), (3, .int (nI i))]) (hi : i + 4 < L) (hk : k < 512) (hcs : cells ≤ 600000 ∧ slots ≤ 7302250) (ok : oK Rl mX9_unify mX10_unify [])
    (kk : ∀ (H : Heap) (locs : List Loc) (μ ν : gMem), LW D τ a1 a2 s μ ν H locs → Rl (k + 1) μ ν → W p l e room_1 s m #[Value.ref b] below meth c H locs cells slots Q (F0 m 1172 ls [])) (H : Heap) (locs : List Loc) (μ ν : gMem) (hW : LW D τ a1 a2 s μ ν H locs) (hR : Rl k μ ν) : W p l e room_1 s m #[Value.ref b] below meth c H locs cells slots Q (F0 m 448 ls []) := by
  have d448 : decode code 448 = .ok (.aload_n 1, 1) := lwd_8 (448, .aload_n 1, 1) (List.mem_of_getElem? (i := 0) rfl)
  have d449 : decode code 449 = .ok (.invokevirtual 49, 3) := lwd_8 (449, .invokevirtual 49, 3) (List.mem_of_getElem? (i := 1) rfl)
  have d452 : decode code 452 = .ok (.aload_n 2, 1) := lwd_8 (452, .aload_n 2, 1) (List.mem_of_getElem? (i := 2) rfl)
  have d453 : decode code 453 = .ok (.invokevirtual 53, 3) := lwd_8 (453, .invokevirtual 53, 3) (List.mem_of_getElem? (i := 3) rfl)
  have d456 : decode code 456 = .ok (.if_icmp .eq 716, 3) := lwd_8 (456, .if_icmp .eq 716, 3) (List.mem_of_getElem? (i := 4) rfl)
  have d459 : decode code 459 = .ok (.iconst 0, 1) := lwd_8 (459, .iconst 0, 1) (List.mem_of_getElem? (i := 5) rfl)
  have d460 : decode code 460 = .ok (.ireturn, 1) := lwd_8 (460, .ireturn, 1) (List.mem_of_getElem? (i := 6) rfl)
  obtain ⟨hx, hb, hr, hml, hown, hts, hX, hbl, hlocks, hgv⟩ := id C0
  obtain ⟨hK, hI1, hI2, hZ1, hZ2, hA1, hA2, hdis⟩ := F
  obtain ⟨hP1, hP2, hS⟩ := hW
  obtain ⟨x, μ', ν', e1, e2, hR'⟩ := ok k μ ν hk hR
  refine lv_aload_n hx hb d448 rfl (lv_at hl 1 rfl) ?_
  refine l_callV (n := 0) (w := (D, τ, LC, a1)) (c0 := 177) (as := []) (rest := []) (M' := MX9_unify) (ci := 0) (C := RX9) (T := TX9) (N := 5) (A0 := fun _ => True) hx hb hml hown hts hl.1 d449 (tX9_unify l D τ a1 _ _ _ e1) rfl rfl q810 q811 q812 q141 q813 (by decide +kernel) (by decide) rfl (Nat.le_of_ble_eq_true rfl) hcs hP1 hK hI1 hZ1 (by rintro q ⟨c, hc, rfl⟩; exact hA1 c hc) hS (by intro v hv; simp at hv; try (rcases hv with rfl | rfl | rfl | rfl <;> rfl); try (rcases hv with rfl | rfl | rfl <;> rfl); try (rcases hv with rfl | rfl <;> rfl); try (subst hv; rfl)) (by intro q hq; cases hq; rfl) (fun H1 locs1 hQ1 hS hkeep => ?_)
  have hP2 : va_P D gcl (gW (D, τ, LM, a2) ν) H1 := hP2.kept (fun k9 q9 h9 => by
    have hlt := (hP2 k9 q9 h9).lt
    refine hkeep _ hlt ?_
    rintro ⟨c, hc, he⟩
    have h8 : k9 < 17 := by have := (List.getElem?_eq_some_iff.mp h9).1; rw [gW_len] at this; exact this
    rw [gW_get (w := (D, τ, LM, a2)) h8] at h9
    cases h9
    exact hdis c k9 hc h8 he.symm)
  refine lv_aload_n hx hb d452 rfl (lv_at hl 2 rfl) ?_
  refine l_callV (n := 0) (w := (D, τ, LM, a2)) (c0 := 0) (as := []) (rest := [.int x]) (M' := MX10_unify) (ci := 9) (C := RX10) (T := TX10) (N := 30) (A0 := fun _ => True) hx hb hml hown hts hl.1 d453 (tX10_unify l D τ a2 _ _ _ e2) rfl rfl q1514 q1515 q1516 q150 q1517 (by decide +kernel) (by decide) rfl (Nat.le_of_ble_eq_true rfl) hcs hP2 hK hI2 hZ2 (by rintro q ⟨c, hc, rfl⟩; exact hA2 c hc) hS (by intro v hv; simp at hv; try (rcases hv with rfl | rfl | rfl | rfl <;> rfl); try (rcases hv with rfl | rfl | rfl <;> rfl); try (rcases hv with rfl | rfl <;> rfl); try (subst hv; rfl)) (by intro q hq; cases hq; rfl) (fun H2 locs2 hQ2 hS hkeep2 => ?_)
  have hQ1 : va_P D gcl (gW (D, τ, LC, a1) μ') H2 := hQ1.kept (fun k9 q9 h9 => by
    have hlt := (hQ1 k9 q9 h9).lt
    refine hkeep2 _ hlt ?_
    rintro ⟨c, hc, he⟩
    have h8 : k9 < 182 := by have := (List.getElem?_eq_some_iff.mp h9).1; rw [gW_len] at this; exact this
    rw [gW_get (w := (D, τ, LC, a1)) h8] at h9
    cases h9
    exact hdis k9 c h8 hc he)
  refine lv_icmp_eq (tgt := 1172) hx hb d456 (by decide) (fun _ => ?_) (fun hc => absurd rfl hc)
  exact kk _ _ μ' ν' ⟨hQ1, hQ2, hS⟩ hR'
set_option maxRecDepth 20000 in
theorem lwd_9 : ∀ e ∈ ([(461, .aload_n 1, 1), (462, .invokevirtual 54, 3), (465, .aload_n 2, 1), (466, .invokevirtual 57, 3), (469, .if_icmp .eq 703, 3), (472, .iconst 0, 1), (473, .ireturn, 1)] : List (Nat × Instr × Nat)), decode code e.1 = .ok (e.2.1, e.2.2) := by decide +kernel
set_option maxHeartbeats 2000000 in
theorem lc_9 {D : va_G} {τ : ClassId × ClassId × ClassId × ClassId} {a1 a2 : Nat → Nat} {Rl : Nat → gMem → gMem → Prop} {i k : Nat} (C0 : lw_At p s m meth c b L xs) (hL : L ≤ 2560) (F : LF D τ a1 a2 s) (hl : lv_has ls 4 [(0, .ref b), (1, .ref (a1 177)), (2, .ref (a2 0)), (3, .int (nI i))]) (hi : i + 4 < L) (hk : k < 512) (hcs : cells ≤ 600000 ∧ slots ≤ 7302250) (ok : oK Rl mX9_repack mX10_repack [])
    (kk : ∀ (H : Heap) (locs : List Loc) (μ ν : gMem), LW D τ a1 a2 s μ ν H locs → Rl (k + 1) μ ν → W p l e room_1 s m #[Value.ref b] below meth c H locs cells slots Q (F0 m 1172 ls [])) (H : Heap) (locs : List Loc) (μ ν : gMem) (hW : LW D τ a1 a2 s μ ν H locs) (hR : Rl k μ ν) : W p l e room_1 s m #[Value.ref b] below meth c H locs cells slots Q (F0 m 461 ls []) := by
  have d461 : decode code 461 = .ok (.aload_n 1, 1) := lwd_9 (461, .aload_n 1, 1) (List.mem_of_getElem? (i := 0) rfl)
  have d462 : decode code 462 = .ok (.invokevirtual 54, 3) := lwd_9 (462, .invokevirtual 54, 3) (List.mem_of_getElem? (i := 1) rfl)
  have d465 : decode code 465 = .ok (.aload_n 2, 1) := lwd_9 (465, .aload_n 2, 1) (List.mem_of_getElem? (i := 2) rfl)
  have d466 : decode code 466 = .ok (.invokevirtual 57, 3) := lwd_9 (466, .invokevirtual 57, 3) (List.mem_of_getElem? (i := 3) rfl)
  have d469 : decode code 469 = .ok (.if_icmp .eq 703, 3) := lwd_9 (469, .if_icmp .eq 703, 3) (List.mem_of_getElem? (i := 4) rfl)
  have d472 : decode code 472 = .ok (.iconst 0, 1) := lwd_9 (472, .iconst 0, 1) (List.mem_of_getElem? (i := 5) rfl)
  have d473 : decode code 473 = .ok (.ireturn, 1) := lwd_9 (473, .ireturn, 1) (List.mem_of_getElem? (i := 6) rfl)
  obtain ⟨hx, hb, hr, hml, hown, hts, hX, hbl, hlocks, hgv⟩ := id C0
  obtain ⟨hK, hI1, hI2, hZ1, hZ2, hA1, hA2, hdis⟩ := F
  obtain ⟨hP1, hP2, hS⟩ := hW
  obtain ⟨x, μ', ν', e1, e2, hR'⟩ := ok k μ ν hk hR
  refine lv_aload_n hx hb d461 rfl (lv_at hl 1 rfl) ?_
  refine l_callV (n := 0) (w := (D, τ, LC, a1)) (c0 := 177) (as := []) (rest := []) (M' := MX9_repack) (ci := 0) (C := RX9) (T := TX9) (N := 5) (A0 := fun _ => True) hx hb hml hown hts hl.1 d462 (tX9_repack l D τ a1 _ _ _ e1) rfl rfl q815 q816 q817 q141 q818 (by decide +kernel) (by decide) rfl (Nat.le_of_ble_eq_true rfl) hcs hP1 hK hI1 hZ1 (by rintro q ⟨c, hc, rfl⟩; exact hA1 c hc) hS (by intro v hv; simp at hv; try (rcases hv with rfl | rfl | rfl | rfl <;> rfl); try (rcases hv with rfl | rfl | rfl <;> rfl); try (rcases hv with rfl | rfl <;> rfl); try (subst hv; rfl)) (by intro q hq; cases hq; rfl) (fun H1 locs1 hQ1 hS hkeep => ?_)
  have hP2 : va_P D gcl (gW (D, τ, LM, a2) ν) H1 := hP2.kept (fun k9 q9 h9 => by
    have hlt := (hP2 k9 q9 h9).lt
    refine hkeep _ hlt ?_
    rintro ⟨c, hc, he⟩
    have h8 : k9 < 17 := by have := (List.getElem?_eq_some_iff.mp h9).1; rw [gW_len] at this; exact this
    rw [gW_get (w := (D, τ, LM, a2)) h8] at h9
    cases h9
    exact hdis c k9 hc h8 he.symm)
  refine lv_aload_n hx hb d465 rfl (lv_at hl 2 rfl) ?_
  refine l_callV (n := 0) (w := (D, τ, LM, a2)) (c0 := 0) (as := []) (rest := [.int x]) (M' := MX10_repack) (ci := 9) (C := RX10) (T := TX10) (N := 30) (A0 := fun _ => True) hx hb hml hown hts hl.1 d466 (tX10_repack l D τ a2 _ _ _ e2) rfl rfl q1526 q1527 q1528 q150 q1529 (by decide +kernel) (by decide) rfl (Nat.le_of_ble_eq_true rfl) hcs hP2 hK hI2 hZ2 (by rintro q ⟨c, hc, rfl⟩; exact hA2 c hc) hS (by intro v hv; simp at hv; try (rcases hv with rfl | rfl | rfl | rfl <;> rfl); try (rcases hv with rfl | rfl | rfl <;> rfl); try (rcases hv with rfl | rfl <;> rfl); try (subst hv; rfl)) (by intro q hq; cases hq; rfl) (fun H2 locs2 hQ2 hS hkeep2 => ?_)
  have hQ1 : va_P D gcl (gW (D, τ, LC, a1) μ') H2 := hQ1.kept (fun k9 q9 h9 => by
    have hlt := (hQ1 k9 q9 h9).lt
    refine hkeep2 _ hlt ?_
    rintro ⟨c, hc, he⟩
    have h8 : k9 < 182 := by have := (List.getElem?_eq_some_iff.mp h9).1; rw [gW_len] at this; exact this
    rw [gW_get (w := (D, τ, LC, a1)) h8] at h9
    cases h9
    exact hdis k9 c h8 hc he)
  refine lv_icmp_eq (tgt := 1172) hx hb d469 (by decide) (fun _ => ?_) (fun hc => absurd rfl hc)
  exact kk _ _ μ' ν' ⟨hQ1, hQ2, hS⟩ hR'
set_option maxRecDepth 20000 in
theorem lwd_10 : ∀ e ∈ ([(474, .aload_n 1, 1), (475, .aload_n 0, 1), (476, .iload_n 3, 1), (477, .iconst 1, 1), (478, .iadd, 1), (479, .iaload, 1), (480, .aload_n 0, 1), (481, .iload_n 3, 1), (482, .iconst 2, 1), (483, .iadd, 1), (484, .iaload, 1), (485, .invokevirtual 58, 3), (488, .aload_n 2, 1), (489, .aload_n 0, 1), (490, .iload_n 3, 1), (491, .iconst 1, 1), (492, .iadd, 1), (493, .iaload, 1), (494, .aload_n 0, 1), (495, .iload_n 3, 1), (496, .iconst 2, 1), (497, .iadd, 1), (498, .iaload, 1), (499, .invokevirtual 61, 3), (502, .if_icmp .eq 670, 3), (505, .iconst 0, 1), (506, .ireturn, 1)] : List (Nat × Instr × Nat)), decode code e.1 = .ok (e.2.1, e.2.2) := by decide +kernel
set_option maxHeartbeats 2000000 in
theorem lc_10 {D : va_G} {τ : ClassId × ClassId × ClassId × ClassId} {a1 a2 : Nat → Nat} {Rl : Nat → gMem → gMem → Prop} {i k : Nat} (C0 : lw_At p s m meth c b L xs) (hL : L ≤ 2560) (F : LF D τ a1 a2 s) (hl : lv_has ls 4 [(0, .ref b), (1, .ref (a1 177)), (2, .ref (a2 0)), (3, .int (nI i))]) (hi : i + 4 < L) (hk : k < 512) (hcs : cells ≤ 600000 ∧ slots ≤ 7302250) (ok : oK Rl mX9_move mX10_move [.int (xs (i + 1)), .int (xs (i + 2))])
    (kk : ∀ (H : Heap) (locs : List Loc) (μ ν : gMem), LW D τ a1 a2 s μ ν H locs → Rl (k + 1) μ ν → W p l e room_1 s m #[Value.ref b] below meth c H locs cells slots Q (F0 m 1172 ls [])) (H : Heap) (locs : List Loc) (μ ν : gMem) (hW : LW D τ a1 a2 s μ ν H locs) (hR : Rl k μ ν) : W p l e room_1 s m #[Value.ref b] below meth c H locs cells slots Q (F0 m 474 ls []) := by
  have d474 : decode code 474 = .ok (.aload_n 1, 1) := lwd_10 (474, .aload_n 1, 1) (List.mem_of_getElem? (i := 0) rfl)
  have d475 : decode code 475 = .ok (.aload_n 0, 1) := lwd_10 (475, .aload_n 0, 1) (List.mem_of_getElem? (i := 1) rfl)
  have d476 : decode code 476 = .ok (.iload_n 3, 1) := lwd_10 (476, .iload_n 3, 1) (List.mem_of_getElem? (i := 2) rfl)
  have d477 : decode code 477 = .ok (.iconst 1, 1) := lwd_10 (477, .iconst 1, 1) (List.mem_of_getElem? (i := 3) rfl)
  have d478 : decode code 478 = .ok (.iadd, 1) := lwd_10 (478, .iadd, 1) (List.mem_of_getElem? (i := 4) rfl)
  have d479 : decode code 479 = .ok (.iaload, 1) := lwd_10 (479, .iaload, 1) (List.mem_of_getElem? (i := 5) rfl)
  have d480 : decode code 480 = .ok (.aload_n 0, 1) := lwd_10 (480, .aload_n 0, 1) (List.mem_of_getElem? (i := 6) rfl)
  have d481 : decode code 481 = .ok (.iload_n 3, 1) := lwd_10 (481, .iload_n 3, 1) (List.mem_of_getElem? (i := 7) rfl)
  have d482 : decode code 482 = .ok (.iconst 2, 1) := lwd_10 (482, .iconst 2, 1) (List.mem_of_getElem? (i := 8) rfl)
  have d483 : decode code 483 = .ok (.iadd, 1) := lwd_10 (483, .iadd, 1) (List.mem_of_getElem? (i := 9) rfl)
  have d484 : decode code 484 = .ok (.iaload, 1) := lwd_10 (484, .iaload, 1) (List.mem_of_getElem? (i := 10) rfl)
  have d485 : decode code 485 = .ok (.invokevirtual 58, 3) := lwd_10 (485, .invokevirtual 58, 3) (List.mem_of_getElem? (i := 11) rfl)
  have d488 : decode code 488 = .ok (.aload_n 2, 1) := lwd_10 (488, .aload_n 2, 1) (List.mem_of_getElem? (i := 12) rfl)
  have d489 : decode code 489 = .ok (.aload_n 0, 1) := lwd_10 (489, .aload_n 0, 1) (List.mem_of_getElem? (i := 13) rfl)
  have d490 : decode code 490 = .ok (.iload_n 3, 1) := lwd_10 (490, .iload_n 3, 1) (List.mem_of_getElem? (i := 14) rfl)
  have d491 : decode code 491 = .ok (.iconst 1, 1) := lwd_10 (491, .iconst 1, 1) (List.mem_of_getElem? (i := 15) rfl)
  have d492 : decode code 492 = .ok (.iadd, 1) := lwd_10 (492, .iadd, 1) (List.mem_of_getElem? (i := 16) rfl)
  have d493 : decode code 493 = .ok (.iaload, 1) := lwd_10 (493, .iaload, 1) (List.mem_of_getElem? (i := 17) rfl)
  have d494 : decode code 494 = .ok (.aload_n 0, 1) := lwd_10 (494, .aload_n 0, 1) (List.mem_of_getElem? (i := 18) rfl)
  have d495 : decode code 495 = .ok (.iload_n 3, 1) := lwd_10 (495, .iload_n 3, 1) (List.mem_of_getElem? (i := 19) rfl)
  have d496 : decode code 496 = .ok (.iconst 2, 1) := lwd_10 (496, .iconst 2, 1) (List.mem_of_getElem? (i := 20) rfl)
  have d497 : decode code 497 = .ok (.iadd, 1) := lwd_10 (497, .iadd, 1) (List.mem_of_getElem? (i := 21) rfl)
  have d498 : decode code 498 = .ok (.iaload, 1) := lwd_10 (498, .iaload, 1) (List.mem_of_getElem? (i := 22) rfl)
  have d499 : decode code 499 = .ok (.invokevirtual 61, 3) := lwd_10 (499, .invokevirtual 61, 3) (List.mem_of_getElem? (i := 23) rfl)
  have d502 : decode code 502 = .ok (.if_icmp .eq 670, 3) := lwd_10 (502, .if_icmp .eq 670, 3) (List.mem_of_getElem? (i := 24) rfl)
  have d505 : decode code 505 = .ok (.iconst 0, 1) := lwd_10 (505, .iconst 0, 1) (List.mem_of_getElem? (i := 25) rfl)
  have d506 : decode code 506 = .ok (.ireturn, 1) := lwd_10 (506, .ireturn, 1) (List.mem_of_getElem? (i := 26) rfl)
  obtain ⟨hx, hb, hr, hml, hown, hts, hX, hbl, hlocks, hgv⟩ := id C0
  obtain ⟨hK, hI1, hI2, hZ1, hZ2, hA1, hA2, hdis⟩ := F
  obtain ⟨hP1, hP2, hS⟩ := hW
  obtain ⟨x, μ', ν', e1, e2, hR'⟩ := ok k μ ν hk hR
  refine lv_aload_n hx hb d474 rfl (lv_at hl 1 rfl) ?_
  refine l_arg (d := 1) C0 hS hl d475 d476 d477 d478 d479 rfl (by omega) hL ?_
  refine l_arg (d := 2) C0 hS hl d480 d481 d482 d483 d484 rfl (by omega) hL ?_
  refine l_callV (n := 2) (w := (D, τ, LC, a1)) (c0 := 177) (as := [.int (xs (i + 1)), .int (xs (i + 2))]) (rest := []) (M' := MX9_move) (ci := 0) (C := RX9) (T := TX9) (N := 5) (A0 := fun _ => True) hx hb hml hown hts hl.1 d485 (tX9_move l D τ a1 _ _ _ e1) rfl rfl q839 q840 q841 q141 q842 (by decide +kernel) (by decide) rfl (Nat.le_of_ble_eq_true rfl) hcs hP1 hK hI1 hZ1 (by rintro q ⟨c, hc, rfl⟩; exact hA1 c hc) hS (by intro v hv; simp at hv; try (rcases hv with rfl | rfl | rfl | rfl <;> rfl); try (rcases hv with rfl | rfl | rfl <;> rfl); try (rcases hv with rfl | rfl <;> rfl); try (subst hv; rfl)) (by intro q hq; cases hq; rfl) (fun H1 locs1 hQ1 hS hkeep => ?_)
  have hP2 : va_P D gcl (gW (D, τ, LM, a2) ν) H1 := hP2.kept (fun k9 q9 h9 => by
    have hlt := (hP2 k9 q9 h9).lt
    refine hkeep _ hlt ?_
    rintro ⟨c, hc, he⟩
    have h8 : k9 < 17 := by have := (List.getElem?_eq_some_iff.mp h9).1; rw [gW_len] at this; exact this
    rw [gW_get (w := (D, τ, LM, a2)) h8] at h9
    cases h9
    exact hdis c k9 hc h8 he.symm)
  refine lv_aload_n hx hb d488 rfl (lv_at hl 2 rfl) ?_
  refine l_arg (d := 1) C0 hS hl d489 d490 d491 d492 d493 rfl (by omega) hL ?_
  refine l_arg (d := 2) C0 hS hl d494 d495 d496 d497 d498 rfl (by omega) hL ?_
  refine l_callV (n := 2) (w := (D, τ, LM, a2)) (c0 := 0) (as := [.int (xs (i + 1)), .int (xs (i + 2))]) (rest := [.int x]) (M' := MX10_move) (ci := 9) (C := RX10) (T := TX10) (N := 30) (A0 := fun _ => True) hx hb hml hown hts hl.1 d499 (tX10_move l D τ a2 _ _ _ e2) rfl rfl q1542 q1543 q1544 q150 q1545 (by decide +kernel) (by decide) rfl (Nat.le_of_ble_eq_true rfl) hcs hP2 hK hI2 hZ2 (by rintro q ⟨c, hc, rfl⟩; exact hA2 c hc) hS (by intro v hv; simp at hv; try (rcases hv with rfl | rfl | rfl | rfl <;> rfl); try (rcases hv with rfl | rfl | rfl <;> rfl); try (rcases hv with rfl | rfl <;> rfl); try (subst hv; rfl)) (by intro q hq; cases hq; rfl) (fun H2 locs2 hQ2 hS hkeep2 => ?_)
  have hQ1 : va_P D gcl (gW (D, τ, LC, a1) μ') H2 := hQ1.kept (fun k9 q9 h9 => by
    have hlt := (hQ1 k9 q9 h9).lt
    refine hkeep2 _ hlt ?_
    rintro ⟨c, hc, he⟩
    have h8 : k9 < 182 := by have := (List.getElem?_eq_some_iff.mp h9).1; rw [gW_len] at this; exact this
    rw [gW_get (w := (D, τ, LC, a1)) h8] at h9
    cases h9
    exact hdis k9 c h8 hc he)
  refine lv_icmp_eq (tgt := 1172) hx hb d502 (by decide) (fun _ => ?_) (fun hc => absurd rfl hc)
  exact kk _ _ μ' ν' ⟨hQ1, hQ2, hS⟩ hR'
set_option maxRecDepth 20000 in
theorem lwd_11 : ∀ e ∈ ([(507, .aload_n 1, 1), (508, .aload_n 0, 1), (509, .iload_n 3, 1), (510, .iconst 1, 1), (511, .iadd, 1), (512, .iaload, 1), (513, .invokevirtual 62, 3), (516, .aload_n 2, 1), (517, .aload_n 0, 1), (518, .iload_n 3, 1), (519, .iconst 1, 1), (520, .iadd, 1), (521, .iaload, 1), (522, .invokevirtual 65, 3), (525, .if_icmp .eq 647, 3), (528, .iconst 0, 1), (529, .ireturn, 1)] : List (Nat × Instr × Nat)), decode code e.1 = .ok (e.2.1, e.2.2) := by decide +kernel
set_option maxHeartbeats 2000000 in
theorem lc_11 {D : va_G} {τ : ClassId × ClassId × ClassId × ClassId} {a1 a2 : Nat → Nat} {Rl : Nat → gMem → gMem → Prop} {i k : Nat} (C0 : lw_At p s m meth c b L xs) (hL : L ≤ 2560) (F : LF D τ a1 a2 s) (hl : lv_has ls 4 [(0, .ref b), (1, .ref (a1 177)), (2, .ref (a2 0)), (3, .int (nI i))]) (hi : i + 4 < L) (hk : k < 512) (hcs : cells ≤ 600000 ∧ slots ≤ 7302250) (ok : oK Rl mX9_migrate mX10_migrate [.int (xs (i + 1))])
    (kk : ∀ (H : Heap) (locs : List Loc) (μ ν : gMem), LW D τ a1 a2 s μ ν H locs → Rl (k + 1) μ ν → W p l e room_1 s m #[Value.ref b] below meth c H locs cells slots Q (F0 m 1172 ls [])) (H : Heap) (locs : List Loc) (μ ν : gMem) (hW : LW D τ a1 a2 s μ ν H locs) (hR : Rl k μ ν) : W p l e room_1 s m #[Value.ref b] below meth c H locs cells slots Q (F0 m 507 ls []) := by
  have d507 : decode code 507 = .ok (.aload_n 1, 1) := lwd_11 (507, .aload_n 1, 1) (List.mem_of_getElem? (i := 0) rfl)
  have d508 : decode code 508 = .ok (.aload_n 0, 1) := lwd_11 (508, .aload_n 0, 1) (List.mem_of_getElem? (i := 1) rfl)
  have d509 : decode code 509 = .ok (.iload_n 3, 1) := lwd_11 (509, .iload_n 3, 1) (List.mem_of_getElem? (i := 2) rfl)
  have d510 : decode code 510 = .ok (.iconst 1, 1) := lwd_11 (510, .iconst 1, 1) (List.mem_of_getElem? (i := 3) rfl)
  have d511 : decode code 511 = .ok (.iadd, 1) := lwd_11 (511, .iadd, 1) (List.mem_of_getElem? (i := 4) rfl)
  have d512 : decode code 512 = .ok (.iaload, 1) := lwd_11 (512, .iaload, 1) (List.mem_of_getElem? (i := 5) rfl)
  have d513 : decode code 513 = .ok (.invokevirtual 62, 3) := lwd_11 (513, .invokevirtual 62, 3) (List.mem_of_getElem? (i := 6) rfl)
  have d516 : decode code 516 = .ok (.aload_n 2, 1) := lwd_11 (516, .aload_n 2, 1) (List.mem_of_getElem? (i := 7) rfl)
  have d517 : decode code 517 = .ok (.aload_n 0, 1) := lwd_11 (517, .aload_n 0, 1) (List.mem_of_getElem? (i := 8) rfl)
  have d518 : decode code 518 = .ok (.iload_n 3, 1) := lwd_11 (518, .iload_n 3, 1) (List.mem_of_getElem? (i := 9) rfl)
  have d519 : decode code 519 = .ok (.iconst 1, 1) := lwd_11 (519, .iconst 1, 1) (List.mem_of_getElem? (i := 10) rfl)
  have d520 : decode code 520 = .ok (.iadd, 1) := lwd_11 (520, .iadd, 1) (List.mem_of_getElem? (i := 11) rfl)
  have d521 : decode code 521 = .ok (.iaload, 1) := lwd_11 (521, .iaload, 1) (List.mem_of_getElem? (i := 12) rfl)
  have d522 : decode code 522 = .ok (.invokevirtual 65, 3) := lwd_11 (522, .invokevirtual 65, 3) (List.mem_of_getElem? (i := 13) rfl)
  have d525 : decode code 525 = .ok (.if_icmp .eq 647, 3) := lwd_11 (525, .if_icmp .eq 647, 3) (List.mem_of_getElem? (i := 14) rfl)
  have d528 : decode code 528 = .ok (.iconst 0, 1) := lwd_11 (528, .iconst 0, 1) (List.mem_of_getElem? (i := 15) rfl)
  have d529 : decode code 529 = .ok (.ireturn, 1) := lwd_11 (529, .ireturn, 1) (List.mem_of_getElem? (i := 16) rfl)
  obtain ⟨hx, hb, hr, hml, hown, hts, hX, hbl, hlocks, hgv⟩ := id C0
  obtain ⟨hK, hI1, hI2, hZ1, hZ2, hA1, hA2, hdis⟩ := F
  obtain ⟨hP1, hP2, hS⟩ := hW
  obtain ⟨x, μ', ν', e1, e2, hR'⟩ := ok k μ ν hk hR
  refine lv_aload_n hx hb d507 rfl (lv_at hl 1 rfl) ?_
  refine l_arg (d := 1) C0 hS hl d508 d509 d510 d511 d512 rfl (by omega) hL ?_
  refine l_callV (n := 1) (w := (D, τ, LC, a1)) (c0 := 177) (as := [.int (xs (i + 1))]) (rest := []) (M' := MX9_migrate) (ci := 0) (C := RX9) (T := TX9) (N := 5) (A0 := fun _ => True) hx hb hml hown hts hl.1 d513 (tX9_migrate l D τ a1 _ _ _ e1) rfl rfl q873 q874 q875 q141 q876 (by decide +kernel) (by decide) rfl (Nat.le_of_ble_eq_true rfl) hcs hP1 hK hI1 hZ1 (by rintro q ⟨c, hc, rfl⟩; exact hA1 c hc) hS (by intro v hv; simp at hv; try (rcases hv with rfl | rfl | rfl | rfl <;> rfl); try (rcases hv with rfl | rfl | rfl <;> rfl); try (rcases hv with rfl | rfl <;> rfl); try (subst hv; rfl)) (by intro q hq; cases hq; rfl) (fun H1 locs1 hQ1 hS hkeep => ?_)
  have hP2 : va_P D gcl (gW (D, τ, LM, a2) ν) H1 := hP2.kept (fun k9 q9 h9 => by
    have hlt := (hP2 k9 q9 h9).lt
    refine hkeep _ hlt ?_
    rintro ⟨c, hc, he⟩
    have h8 : k9 < 17 := by have := (List.getElem?_eq_some_iff.mp h9).1; rw [gW_len] at this; exact this
    rw [gW_get (w := (D, τ, LM, a2)) h8] at h9
    cases h9
    exact hdis c k9 hc h8 he.symm)
  refine lv_aload_n hx hb d516 rfl (lv_at hl 2 rfl) ?_
  refine l_arg (d := 1) C0 hS hl d517 d518 d519 d520 d521 rfl (by omega) hL ?_
  refine l_callV (n := 1) (w := (D, τ, LM, a2)) (c0 := 0) (as := [.int (xs (i + 1))]) (rest := [.int x]) (M' := MX10_migrate) (ci := 9) (C := RX10) (T := TX10) (N := 30) (A0 := fun _ => True) hx hb hml hown hts hl.1 d522 (tX10_migrate l D τ a2 _ _ _ e2) rfl rfl q1591 q1592 q1593 q150 q1594 (by decide +kernel) (by decide) rfl (Nat.le_of_ble_eq_true rfl) hcs hP2 hK hI2 hZ2 (by rintro q ⟨c, hc, rfl⟩; exact hA2 c hc) hS (by intro v hv; simp at hv; try (rcases hv with rfl | rfl | rfl | rfl <;> rfl); try (rcases hv with rfl | rfl | rfl <;> rfl); try (rcases hv with rfl | rfl <;> rfl); try (subst hv; rfl)) (by intro q hq; cases hq; rfl) (fun H2 locs2 hQ2 hS hkeep2 => ?_)
  have hQ1 : va_P D gcl (gW (D, τ, LC, a1) μ') H2 := hQ1.kept (fun k9 q9 h9 => by
    have hlt := (hQ1 k9 q9 h9).lt
    refine hkeep2 _ hlt ?_
    rintro ⟨c, hc, he⟩
    have h8 : k9 < 182 := by have := (List.getElem?_eq_some_iff.mp h9).1; rw [gW_len] at this; exact this
    rw [gW_get (w := (D, τ, LC, a1)) h8] at h9
    cases h9
    exact hdis k9 c h8 hc he)
  refine lv_icmp_eq (tgt := 1172) hx hb d525 (by decide) (fun _ => ?_) (fun hc => absurd rfl hc)
  exact kk _ _ μ' ν' ⟨hQ1, hQ2, hS⟩ hR'
set_option maxRecDepth 20000 in
theorem lwd_12 : ∀ e ∈ ([(530, .aload_n 1, 1), (531, .aload_n 0, 1), (532, .iload_n 3, 1), (533, .iconst 1, 1), (534, .iadd, 1), (535, .iaload, 1), (536, .aload_n 0, 1), (537, .iload_n 3, 1), (538, .iconst 2, 1), (539, .iadd, 1), (540, .iaload, 1), (541, .invokevirtual 66, 3), (544, .aload_n 2, 1), (545, .aload_n 0, 1), (546, .iload_n 3, 1), (547, .iconst 1, 1), (548, .iadd, 1), (549, .iaload, 1), (550, .aload_n 0, 1), (551, .iload_n 3, 1), (552, .iconst 2, 1), (553, .iadd, 1), (554, .iaload, 1), (555, .invokevirtual 70, 3), (558, .if_icmp .eq 614, 3), (561, .iconst 0, 1), (562, .ireturn, 1)] : List (Nat × Instr × Nat)), decode code e.1 = .ok (e.2.1, e.2.2) := by decide +kernel
set_option maxHeartbeats 2000000 in
theorem lc_12 {D : va_G} {τ : ClassId × ClassId × ClassId × ClassId} {a1 a2 : Nat → Nat} {Rl : Nat → gMem → gMem → Prop} {i k : Nat} (C0 : lw_At p s m meth c b L xs) (hL : L ≤ 2560) (F : LF D τ a1 a2 s) (hl : lv_has ls 4 [(0, .ref b), (1, .ref (a1 177)), (2, .ref (a2 0)), (3, .int (nI i))]) (hi : i + 4 < L) (hk : k < 512) (hcs : cells ≤ 600000 ∧ slots ≤ 7302250) (ok : oK Rl mX9_weigh mX10_weigh [.int (xs (i + 1)), .int (xs (i + 2))])
    (kk : ∀ (H : Heap) (locs : List Loc) (μ ν : gMem), LW D τ a1 a2 s μ ν H locs → Rl (k + 1) μ ν → W p l e room_1 s m #[Value.ref b] below meth c H locs cells slots Q (F0 m 1172 ls [])) (H : Heap) (locs : List Loc) (μ ν : gMem) (hW : LW D τ a1 a2 s μ ν H locs) (hR : Rl k μ ν) : W p l e room_1 s m #[Value.ref b] below meth c H locs cells slots Q (F0 m 530 ls []) := by
  have d530 : decode code 530 = .ok (.aload_n 1, 1) := lwd_12 (530, .aload_n 1, 1) (List.mem_of_getElem? (i := 0) rfl)
  have d531 : decode code 531 = .ok (.aload_n 0, 1) := lwd_12 (531, .aload_n 0, 1) (List.mem_of_getElem? (i := 1) rfl)
  have d532 : decode code 532 = .ok (.iload_n 3, 1) := lwd_12 (532, .iload_n 3, 1) (List.mem_of_getElem? (i := 2) rfl)
  have d533 : decode code 533 = .ok (.iconst 1, 1) := lwd_12 (533, .iconst 1, 1) (List.mem_of_getElem? (i := 3) rfl)
  have d534 : decode code 534 = .ok (.iadd, 1) := lwd_12 (534, .iadd, 1) (List.mem_of_getElem? (i := 4) rfl)
  have d535 : decode code 535 = .ok (.iaload, 1) := lwd_12 (535, .iaload, 1) (List.mem_of_getElem? (i := 5) rfl)
  have d536 : decode code 536 = .ok (.aload_n 0, 1) := lwd_12 (536, .aload_n 0, 1) (List.mem_of_getElem? (i := 6) rfl)
  have d537 : decode code 537 = .ok (.iload_n 3, 1) := lwd_12 (537, .iload_n 3, 1) (List.mem_of_getElem? (i := 7) rfl)
  have d538 : decode code 538 = .ok (.iconst 2, 1) := lwd_12 (538, .iconst 2, 1) (List.mem_of_getElem? (i := 8) rfl)
  have d539 : decode code 539 = .ok (.iadd, 1) := lwd_12 (539, .iadd, 1) (List.mem_of_getElem? (i := 9) rfl)
  have d540 : decode code 540 = .ok (.iaload, 1) := lwd_12 (540, .iaload, 1) (List.mem_of_getElem? (i := 10) rfl)
  have d541 : decode code 541 = .ok (.invokevirtual 66, 3) := lwd_12 (541, .invokevirtual 66, 3) (List.mem_of_getElem? (i := 11) rfl)
  have d544 : decode code 544 = .ok (.aload_n 2, 1) := lwd_12 (544, .aload_n 2, 1) (List.mem_of_getElem? (i := 12) rfl)
  have d545 : decode code 545 = .ok (.aload_n 0, 1) := lwd_12 (545, .aload_n 0, 1) (List.mem_of_getElem? (i := 13) rfl)
  have d546 : decode code 546 = .ok (.iload_n 3, 1) := lwd_12 (546, .iload_n 3, 1) (List.mem_of_getElem? (i := 14) rfl)
  have d547 : decode code 547 = .ok (.iconst 1, 1) := lwd_12 (547, .iconst 1, 1) (List.mem_of_getElem? (i := 15) rfl)
  have d548 : decode code 548 = .ok (.iadd, 1) := lwd_12 (548, .iadd, 1) (List.mem_of_getElem? (i := 16) rfl)
  have d549 : decode code 549 = .ok (.iaload, 1) := lwd_12 (549, .iaload, 1) (List.mem_of_getElem? (i := 17) rfl)
  have d550 : decode code 550 = .ok (.aload_n 0, 1) := lwd_12 (550, .aload_n 0, 1) (List.mem_of_getElem? (i := 18) rfl)
  have d551 : decode code 551 = .ok (.iload_n 3, 1) := lwd_12 (551, .iload_n 3, 1) (List.mem_of_getElem? (i := 19) rfl)
  have d552 : decode code 552 = .ok (.iconst 2, 1) := lwd_12 (552, .iconst 2, 1) (List.mem_of_getElem? (i := 20) rfl)
  have d553 : decode code 553 = .ok (.iadd, 1) := lwd_12 (553, .iadd, 1) (List.mem_of_getElem? (i := 21) rfl)
  have d554 : decode code 554 = .ok (.iaload, 1) := lwd_12 (554, .iaload, 1) (List.mem_of_getElem? (i := 22) rfl)
  have d555 : decode code 555 = .ok (.invokevirtual 70, 3) := lwd_12 (555, .invokevirtual 70, 3) (List.mem_of_getElem? (i := 23) rfl)
  have d558 : decode code 558 = .ok (.if_icmp .eq 614, 3) := lwd_12 (558, .if_icmp .eq 614, 3) (List.mem_of_getElem? (i := 24) rfl)
  have d561 : decode code 561 = .ok (.iconst 0, 1) := lwd_12 (561, .iconst 0, 1) (List.mem_of_getElem? (i := 25) rfl)
  have d562 : decode code 562 = .ok (.ireturn, 1) := lwd_12 (562, .ireturn, 1) (List.mem_of_getElem? (i := 26) rfl)
  obtain ⟨hx, hb, hr, hml, hown, hts, hX, hbl, hlocks, hgv⟩ := id C0
  obtain ⟨hK, hI1, hI2, hZ1, hZ2, hA1, hA2, hdis⟩ := F
  obtain ⟨hP1, hP2, hS⟩ := hW
  obtain ⟨x, μ', ν', e1, e2, hR'⟩ := ok k μ ν hk hR
  refine lv_aload_n hx hb d530 rfl (lv_at hl 1 rfl) ?_
  refine l_arg (d := 1) C0 hS hl d531 d532 d533 d534 d535 rfl (by omega) hL ?_
  refine l_arg (d := 2) C0 hS hl d536 d537 d538 d539 d540 rfl (by omega) hL ?_
  refine l_callV (n := 2) (w := (D, τ, LC, a1)) (c0 := 177) (as := [.int (xs (i + 1)), .int (xs (i + 2))]) (rest := []) (M' := MX9_weigh) (ci := 0) (C := RX9) (T := TX9) (N := 5) (A0 := fun _ => True) hx hb hml hown hts hl.1 d541 (tX9_weigh l D τ a1 _ _ _ e1) rfl rfl q920 q921 q922 q141 q923 (by decide +kernel) (by decide) rfl (Nat.le_of_ble_eq_true rfl) hcs hP1 hK hI1 hZ1 (by rintro q ⟨c, hc, rfl⟩; exact hA1 c hc) hS (by intro v hv; simp at hv; try (rcases hv with rfl | rfl | rfl | rfl <;> rfl); try (rcases hv with rfl | rfl | rfl <;> rfl); try (rcases hv with rfl | rfl <;> rfl); try (subst hv; rfl)) (by intro q hq; cases hq; rfl) (fun H1 locs1 hQ1 hS hkeep => ?_)
  have hP2 : va_P D gcl (gW (D, τ, LM, a2) ν) H1 := hP2.kept (fun k9 q9 h9 => by
    have hlt := (hP2 k9 q9 h9).lt
    refine hkeep _ hlt ?_
    rintro ⟨c, hc, he⟩
    have h8 : k9 < 17 := by have := (List.getElem?_eq_some_iff.mp h9).1; rw [gW_len] at this; exact this
    rw [gW_get (w := (D, τ, LM, a2)) h8] at h9
    cases h9
    exact hdis c k9 hc h8 he.symm)
  refine lv_aload_n hx hb d544 rfl (lv_at hl 2 rfl) ?_
  refine l_arg (d := 1) C0 hS hl d545 d546 d547 d548 d549 rfl (by omega) hL ?_
  refine l_arg (d := 2) C0 hS hl d550 d551 d552 d553 d554 rfl (by omega) hL ?_
  refine l_callV (n := 2) (w := (D, τ, LM, a2)) (c0 := 0) (as := [.int (xs (i + 1)), .int (xs (i + 2))]) (rest := [.int x]) (M' := MX10_weigh) (ci := 9) (C := RX10) (T := TX10) (N := 30) (A0 := fun _ => True) hx hb hml hown hts hl.1 d555 (tX10_weigh l D τ a2 _ _ _ e2) rfl rfl q1558 q1559 q1560 q150 q1561 (by decide +kernel) (by decide) rfl (Nat.le_of_ble_eq_true rfl) hcs hP2 hK hI2 hZ2 (by rintro q ⟨c, hc, rfl⟩; exact hA2 c hc) hS (by intro v hv; simp at hv; try (rcases hv with rfl | rfl | rfl | rfl <;> rfl); try (rcases hv with rfl | rfl | rfl <;> rfl); try (rcases hv with rfl | rfl <;> rfl); try (subst hv; rfl)) (by intro q hq; cases hq; rfl) (fun H2 locs2 hQ2 hS hkeep2 => ?_)
  have hQ1 : va_P D gcl (gW (D, τ, LC, a1) μ') H2 := hQ1.kept (fun k9 q9 h9 => by
    have hlt := (hQ1 k9 q9 h9).lt
    refine hkeep2 _ hlt ?_
    rintro ⟨c, hc, he⟩
    have h8 : k9 < 182 := by have := (List.getElem?_eq_some_iff.mp h9).1; rw [gW_len] at this; exact this
    rw [gW_get (w := (D, τ, LC, a1)) h8] at h9
    cases h9
    exact hdis k9 c h8 hc he)
  refine lv_icmp_eq (tgt := 1172) hx hb d558 (by decide) (fun _ => ?_) (fun hc => absurd rfl hc)
  exact kk _ _ μ' ν' ⟨hQ1, hQ2, hS⟩ hR'
set_option maxRecDepth 20000 in
theorem lwd_13 : ∀ e ∈ ([(563, .aload_n 1, 1), (564, .aload_n 0, 1), (565, .iload_n 3, 1), (566, .iconst 1, 1), (567, .iadd, 1), (568, .iaload, 1), (569, .invokevirtual 71, 3), (572, .aload_n 2, 1), (573, .aload_n 0, 1), (574, .iload_n 3, 1), (575, .iconst 1, 1), (576, .iadd, 1), (577, .iaload, 1), (578, .invokevirtual 74, 3), (581, .if_icmp .eq 591, 3), (584, .iconst 0, 1), (585, .ireturn, 1)] : List (Nat × Instr × Nat)), decode code e.1 = .ok (e.2.1, e.2.2) := by decide +kernel
set_option maxHeartbeats 2000000 in
theorem lc_13 {D : va_G} {τ : ClassId × ClassId × ClassId × ClassId} {a1 a2 : Nat → Nat} {Rl : Nat → gMem → gMem → Prop} {i k : Nat} (C0 : lw_At p s m meth c b L xs) (hL : L ≤ 2560) (F : LF D τ a1 a2 s) (hl : lv_has ls 4 [(0, .ref b), (1, .ref (a1 177)), (2, .ref (a2 0)), (3, .int (nI i))]) (hi : i + 4 < L) (hk : k < 512) (hcs : cells ≤ 600000 ∧ slots ≤ 7302250) (ok : oK Rl mX9_pack mX10_pack [.int (xs (i + 1))])
    (kk : ∀ (H : Heap) (locs : List Loc) (μ ν : gMem), LW D τ a1 a2 s μ ν H locs → Rl (k + 1) μ ν → W p l e room_1 s m #[Value.ref b] below meth c H locs cells slots Q (F0 m 1172 ls [])) (H : Heap) (locs : List Loc) (μ ν : gMem) (hW : LW D τ a1 a2 s μ ν H locs) (hR : Rl k μ ν) : W p l e room_1 s m #[Value.ref b] below meth c H locs cells slots Q (F0 m 563 ls []) := by
  have d563 : decode code 563 = .ok (.aload_n 1, 1) := lwd_13 (563, .aload_n 1, 1) (List.mem_of_getElem? (i := 0) rfl)
  have d564 : decode code 564 = .ok (.aload_n 0, 1) := lwd_13 (564, .aload_n 0, 1) (List.mem_of_getElem? (i := 1) rfl)
  have d565 : decode code 565 = .ok (.iload_n 3, 1) := lwd_13 (565, .iload_n 3, 1) (List.mem_of_getElem? (i := 2) rfl)
  have d566 : decode code 566 = .ok (.iconst 1, 1) := lwd_13 (566, .iconst 1, 1) (List.mem_of_getElem? (i := 3) rfl)
  have d567 : decode code 567 = .ok (.iadd, 1) := lwd_13 (567, .iadd, 1) (List.mem_of_getElem? (i := 4) rfl)
  have d568 : decode code 568 = .ok (.iaload, 1) := lwd_13 (568, .iaload, 1) (List.mem_of_getElem? (i := 5) rfl)
  have d569 : decode code 569 = .ok (.invokevirtual 71, 3) := lwd_13 (569, .invokevirtual 71, 3) (List.mem_of_getElem? (i := 6) rfl)
  have d572 : decode code 572 = .ok (.aload_n 2, 1) := lwd_13 (572, .aload_n 2, 1) (List.mem_of_getElem? (i := 7) rfl)
  have d573 : decode code 573 = .ok (.aload_n 0, 1) := lwd_13 (573, .aload_n 0, 1) (List.mem_of_getElem? (i := 8) rfl)
  have d574 : decode code 574 = .ok (.iload_n 3, 1) := lwd_13 (574, .iload_n 3, 1) (List.mem_of_getElem? (i := 9) rfl)
  have d575 : decode code 575 = .ok (.iconst 1, 1) := lwd_13 (575, .iconst 1, 1) (List.mem_of_getElem? (i := 10) rfl)
  have d576 : decode code 576 = .ok (.iadd, 1) := lwd_13 (576, .iadd, 1) (List.mem_of_getElem? (i := 11) rfl)
  have d577 : decode code 577 = .ok (.iaload, 1) := lwd_13 (577, .iaload, 1) (List.mem_of_getElem? (i := 12) rfl)
  have d578 : decode code 578 = .ok (.invokevirtual 74, 3) := lwd_13 (578, .invokevirtual 74, 3) (List.mem_of_getElem? (i := 13) rfl)
  have d581 : decode code 581 = .ok (.if_icmp .eq 591, 3) := lwd_13 (581, .if_icmp .eq 591, 3) (List.mem_of_getElem? (i := 14) rfl)
  have d584 : decode code 584 = .ok (.iconst 0, 1) := lwd_13 (584, .iconst 0, 1) (List.mem_of_getElem? (i := 15) rfl)
  have d585 : decode code 585 = .ok (.ireturn, 1) := lwd_13 (585, .ireturn, 1) (List.mem_of_getElem? (i := 16) rfl)
  obtain ⟨hx, hb, hr, hml, hown, hts, hX, hbl, hlocks, hgv⟩ := id C0
  obtain ⟨hK, hI1, hI2, hZ1, hZ2, hA1, hA2, hdis⟩ := F
  obtain ⟨hP1, hP2, hS⟩ := hW
  obtain ⟨x, μ', ν', e1, e2, hR'⟩ := ok k μ ν hk hR
  refine lv_aload_n hx hb d563 rfl (lv_at hl 1 rfl) ?_
  refine l_arg (d := 1) C0 hS hl d564 d565 d566 d567 d568 rfl (by omega) hL ?_
  refine l_callV (n := 1) (w := (D, τ, LC, a1)) (c0 := 177) (as := [.int (xs (i + 1))]) (rest := []) (M' := MX9_pack) (ci := 0) (C := RX9) (T := TX9) (N := 5) (A0 := fun _ => True) hx hb hml hown hts hl.1 d569 (tX9_pack l D τ a1 _ _ _ e1) rfl rfl q930 q931 q932 q141 q933 (by decide +kernel) (by decide) rfl (Nat.le_of_ble_eq_true rfl) hcs hP1 hK hI1 hZ1 (by rintro q ⟨c, hc, rfl⟩; exact hA1 c hc) hS (by intro v hv; simp at hv; try (rcases hv with rfl | rfl | rfl | rfl <;> rfl); try (rcases hv with rfl | rfl | rfl <;> rfl); try (rcases hv with rfl | rfl <;> rfl); try (subst hv; rfl)) (by intro q hq; cases hq; rfl) (fun H1 locs1 hQ1 hS hkeep => ?_)
  have hP2 : va_P D gcl (gW (D, τ, LM, a2) ν) H1 := hP2.kept (fun k9 q9 h9 => by
    have hlt := (hP2 k9 q9 h9).lt
    refine hkeep _ hlt ?_
    rintro ⟨c, hc, he⟩
    have h8 : k9 < 17 := by have := (List.getElem?_eq_some_iff.mp h9).1; rw [gW_len] at this; exact this
    rw [gW_get (w := (D, τ, LM, a2)) h8] at h9
    cases h9
    exact hdis c k9 hc h8 he.symm)
  refine lv_aload_n hx hb d572 rfl (lv_at hl 2 rfl) ?_
  refine l_arg (d := 1) C0 hS hl d573 d574 d575 d576 d577 rfl (by omega) hL ?_
  refine l_callV (n := 1) (w := (D, τ, LM, a2)) (c0 := 0) (as := [.int (xs (i + 1))]) (rest := [.int x]) (M' := MX10_pack) (ci := 9) (C := RX10) (T := TX10) (N := 30) (A0 := fun _ => True) hx hb hml hown hts hl.1 d578 (tX10_pack l D τ a2 _ _ _ e2) rfl rfl q1595 q1596 q1597 q150 q1598 (by decide +kernel) (by decide) rfl (Nat.le_of_ble_eq_true rfl) hcs hP2 hK hI2 hZ2 (by rintro q ⟨c, hc, rfl⟩; exact hA2 c hc) hS (by intro v hv; simp at hv; try (rcases hv with rfl | rfl | rfl | rfl <;> rfl); try (rcases hv with rfl | rfl | rfl <;> rfl); try (rcases hv with rfl | rfl <;> rfl); try (subst hv; rfl)) (by intro q hq; cases hq; rfl) (fun H2 locs2 hQ2 hS hkeep2 => ?_)
  have hQ1 : va_P D gcl (gW (D, τ, LC, a1) μ') H2 := hQ1.kept (fun k9 q9 h9 => by
    have hlt := (hQ1 k9 q9 h9).lt
    refine hkeep2 _ hlt ?_
    rintro ⟨c, hc, he⟩
    have h8 : k9 < 182 := by have := (List.getElem?_eq_some_iff.mp h9).1; rw [gW_len] at this; exact this
    rw [gW_get (w := (D, τ, LC, a1)) h8] at h9
    cases h9
    exact hdis k9 c h8 hc he)
  refine lv_icmp_eq (tgt := 1172) hx hb d581 (by decide) (fun _ => ?_) (fun hc => absurd rfl hc)
  exact kk _ _ μ' ν' ⟨hQ1, hQ2, hS⟩ hR'
set_option maxRecDepth 20000 in
theorem lwd_14 : ∀ e ∈ ([(586, .aload_n 1, 1), (587, .invokevirtual 75, 3), (590, .aload_n 2, 1), (591, .invokevirtual 79, 3), (594, .if_icmp .eq 578, 3), (597, .iconst 0, 1), (598, .ireturn, 1)] : List (Nat × Instr × Nat)), decode code e.1 = .ok (e.2.1, e.2.2) := by decide +kernel
set_option maxHeartbeats 2000000 in
theorem lc_14 {D : va_G} {τ : ClassId × ClassId × ClassId × ClassId} {a1 a2 : Nat → Nat} {Rl : Nat → gMem → gMem → Prop} {i k : Nat} (C0 : lw_At p s m meth c b L xs) (hL : L ≤ 2560) (F : LF D τ a1 a2 s) (hl : lv_has ls 4 [(0, .ref b), (1, .ref (a1 177)), (2, .ref (a2 0)), (3, .int (nI i))]) (hi : i + 4 < L) (hk : k < 512) (hcs : cells ≤ 600000 ∧ slots ≤ 7302250) (ok : oK Rl mX9_relay mX10_relay [])
    (kk : ∀ (H : Heap) (locs : List Loc) (μ ν : gMem), LW D τ a1 a2 s μ ν H locs → Rl (k + 1) μ ν → W p l e room_1 s m #[Value.ref b] below meth c H locs cells slots Q (F0 m 1172 ls [])) (H : Heap) (locs : List Loc) (μ ν : gMem) (hW : LW D τ a1 a2 s μ ν H locs) (hR : Rl k μ ν) : W p l e room_1 s m #[Value.ref b] below meth c H locs cells slots Q (F0 m 586 ls []) := by
  have d586 : decode code 586 = .ok (.aload_n 1, 1) := lwd_14 (586, .aload_n 1, 1) (List.mem_of_getElem? (i := 0) rfl)
  have d587 : decode code 587 = .ok (.invokevirtual 75, 3) := lwd_14 (587, .invokevirtual 75, 3) (List.mem_of_getElem? (i := 1) rfl)
  have d590 : decode code 590 = .ok (.aload_n 2, 1) := lwd_14 (590, .aload_n 2, 1) (List.mem_of_getElem? (i := 2) rfl)
  have d591 : decode code 591 = .ok (.invokevirtual 79, 3) := lwd_14 (591, .invokevirtual 79, 3) (List.mem_of_getElem? (i := 3) rfl)
  have d594 : decode code 594 = .ok (.if_icmp .eq 578, 3) := lwd_14 (594, .if_icmp .eq 578, 3) (List.mem_of_getElem? (i := 4) rfl)
  have d597 : decode code 597 = .ok (.iconst 0, 1) := lwd_14 (597, .iconst 0, 1) (List.mem_of_getElem? (i := 5) rfl)
  have d598 : decode code 598 = .ok (.ireturn, 1) := lwd_14 (598, .ireturn, 1) (List.mem_of_getElem? (i := 6) rfl)
  obtain ⟨hx, hb, hr, hml, hown, hts, hX, hbl, hlocks, hgv⟩ := id C0
  obtain ⟨hK, hI1, hI2, hZ1, hZ2, hA1, hA2, hdis⟩ := F
  obtain ⟨hP1, hP2, hS⟩ := hW
  obtain ⟨x, μ', ν', e1, e2, hR'⟩ := ok k μ ν hk hR
  refine lv_aload_n hx hb d586 rfl (lv_at hl 1 rfl) ?_
  refine l_callV (n := 0) (w := (D, τ, LC, a1)) (c0 := 177) (as := []) (rest := []) (M' := MX9_relay) (ci := 0) (C := RX9) (T := TX9) (N := 5) (A0 := fun _ => True) hx hb hml hown hts hl.1 d587 (tX9_relay l D τ a1 _ _ _ e1) rfl rfl q964 q965 q966 q141 q967 (by decide +kernel) (by decide) rfl (Nat.le_of_ble_eq_true rfl) hcs hP1 hK hI1 hZ1 (by rintro q ⟨c, hc, rfl⟩; exact hA1 c hc) hS (by intro v hv; simp at hv; try (rcases hv with rfl | rfl | rfl | rfl <;> rfl); try (rcases hv with rfl | rfl | rfl <;> rfl); try (rcases hv with rfl | rfl <;> rfl); try (subst hv; rfl)) (by intro q hq; cases hq; rfl) (fun H1 locs1 hQ1 hS hkeep => ?_)
  have hP2 : va_P D gcl (gW (D, τ, LM, a2) ν) H1 := hP2.kept (fun k9 q9 h9 => by
    have hlt := (hP2 k9 q9 h9).lt
    refine hkeep _ hlt ?_
    rintro ⟨c, hc, he⟩
    have h8 : k9 < 17 := by have := (List.getElem?_eq_some_iff.mp h9).1; rw [gW_len] at this; exact this
    rw [gW_get (w := (D, τ, LM, a2)) h8] at h9
    cases h9
    exact hdis c k9 hc h8 he.symm)
  refine lv_aload_n hx hb d590 rfl (lv_at hl 2 rfl) ?_
  refine l_callV (n := 0) (w := (D, τ, LM, a2)) (c0 := 0) (as := []) (rest := [.int x]) (M' := MX10_relay) (ci := 9) (C := RX10) (T := TX10) (N := 30) (A0 := fun _ => True) hx hb hml hown hts hl.1 d591 (tX10_relay l D τ a2 _ _ _ e2) rfl rfl q1615 q1616 q1617 q150 q1618 (by decide +kernel) (by decide) rfl (Nat.le_of_ble_eq_true rfl) hcs hP2 hK hI2 hZ2 (by rintro q ⟨c, hc, rfl⟩; exact hA2 c hc) hS (by intro v hv; simp at hv; try (rcases hv with rfl | rfl | rfl | rfl <;> rfl); try (rcases hv with rfl | rfl | rfl <;> rfl); try (rcases hv with rfl | rfl <;> rfl); try (subst hv; rfl)) (by intro q hq; cases hq; rfl) (fun H2 locs2 hQ2 hS hkeep2 => ?_)
  have hQ1 : va_P D gcl (gW (D, τ, LC, a1) μ') H2 := hQ1.kept (fun k9 q9 h9 => by
    have hlt := (hQ1 k9 q9 h9).lt
    refine hkeep2 _ hlt ?_
    rintro ⟨c, hc, he⟩
    have h8 : k9 < 182 := by have := (List.getElem?_eq_some_iff.mp h9).1; rw [gW_len] at this; exact this
    rw [gW_get (w := (D, τ, LC, a1)) h8] at h9
    cases h9
    exact hdis k9 c h8 hc he)
  refine lv_icmp_eq (tgt := 1172) hx hb d594 (by decide) (fun _ => ?_) (fun hc => absurd rfl hc)
  exact kk _ _ μ' ν' ⟨hQ1, hQ2, hS⟩ hR'
set_option maxRecDepth 20000 in
theorem lwd_15 : ∀ e ∈ ([(599, .aload_n 1, 1), (600, .aload_n 0, 1), (601, .iload_n 3, 1), (602, .iconst 1, 1), (603, .iadd, 1), (604, .iaload, 1), (605, .invokevirtual 80, 3), (608, .aload_n 2, 1), (609, .aload_n 0, 1), (610, .iload_n 3, 1), (611, .iconst 1, 1), (612, .iadd, 1), (613, .iaload, 1), (614, .invokevirtual 83, 3), (617, .if_icmp .eq 555, 3), (620, .iconst 0, 1), (621, .ireturn, 1)] : List (Nat × Instr × Nat)), decode code e.1 = .ok (e.2.1, e.2.2) := by decide +kernel
set_option maxHeartbeats 2000000 in
theorem lc_15 {D : va_G} {τ : ClassId × ClassId × ClassId × ClassId} {a1 a2 : Nat → Nat} {Rl : Nat → gMem → gMem → Prop} {i k : Nat} (C0 : lw_At p s m meth c b L xs) (hL : L ≤ 2560) (F : LF D τ a1 a2 s) (hl : lv_has ls 4 [(0, .ref b), (1, .ref (a1 177)), (2, .ref (a2 0)), (3, .int (nI i))]) (hi : i + 4 < L) (hk : k < 512) (hcs : cells ≤ 600000 ∧ slots ≤ 7302250) (ok : oK Rl mX9_urge mX10_urge [.int (xs (i + 1))])
    (kk : ∀ (H : Heap) (locs : List Loc) (μ ν : gMem), LW D τ a1 a2 s μ ν H locs → Rl (k + 1) μ ν → W p l e room_1 s m #[Value.ref b] below meth c H locs cells slots Q (F0 m 1172 ls [])) (H : Heap) (locs : List Loc) (μ ν : gMem) (hW : LW D τ a1 a2 s μ ν H locs) (hR : Rl k μ ν) : W p l e room_1 s m #[Value.ref b] below meth c H locs cells slots Q (F0 m 599 ls []) := by
  have d599 : decode code 599 = .ok (.aload_n 1, 1) := lwd_15 (599, .aload_n 1, 1) (List.mem_of_getElem? (i := 0) rfl)
  have d600 : decode code 600 = .ok (.aload_n 0, 1) := lwd_15 (600, .aload_n 0, 1) (List.mem_of_getElem? (i := 1) rfl)
  have d601 : decode code 601 = .ok (.iload_n 3, 1) := lwd_15 (601, .iload_n 3, 1) (List.mem_of_getElem? (i := 2) rfl)
  have d602 : decode code 602 = .ok (.iconst 1, 1) := lwd_15 (602, .iconst 1, 1) (List.mem_of_getElem? (i := 3) rfl)
  have d603 : decode code 603 = .ok (.iadd, 1) := lwd_15 (603, .iadd, 1) (List.mem_of_getElem? (i := 4) rfl)
  have d604 : decode code 604 = .ok (.iaload, 1) := lwd_15 (604, .iaload, 1) (List.mem_of_getElem? (i := 5) rfl)
  have d605 : decode code 605 = .ok (.invokevirtual 80, 3) := lwd_15 (605, .invokevirtual 80, 3) (List.mem_of_getElem? (i := 6) rfl)
  have d608 : decode code 608 = .ok (.aload_n 2, 1) := lwd_15 (608, .aload_n 2, 1) (List.mem_of_getElem? (i := 7) rfl)
  have d609 : decode code 609 = .ok (.aload_n 0, 1) := lwd_15 (609, .aload_n 0, 1) (List.mem_of_getElem? (i := 8) rfl)
  have d610 : decode code 610 = .ok (.iload_n 3, 1) := lwd_15 (610, .iload_n 3, 1) (List.mem_of_getElem? (i := 9) rfl)
  have d611 : decode code 611 = .ok (.iconst 1, 1) := lwd_15 (611, .iconst 1, 1) (List.mem_of_getElem? (i := 10) rfl)
  have d612 : decode code 612 = .ok (.iadd, 1) := lwd_15 (612, .iadd, 1) (List.mem_of_getElem? (i := 11) rfl)
  have d613 : decode code 613 = .ok (.iaload, 1) := lwd_15 (613, .iaload, 1) (List.mem_of_getElem? (i := 12) rfl)
  have d614 : decode code 614 = .ok (.invokevirtual 83, 3) := lwd_15 (614, .invokevirtual 83, 3) (List.mem_of_getElem? (i := 13) rfl)
  have d617 : decode code 617 = .ok (.if_icmp .eq 555, 3) := lwd_15 (617, .if_icmp .eq 555, 3) (List.mem_of_getElem? (i := 14) rfl)
  have d620 : decode code 620 = .ok (.iconst 0, 1) := lwd_15 (620, .iconst 0, 1) (List.mem_of_getElem? (i := 15) rfl)
  have d621 : decode code 621 = .ok (.ireturn, 1) := lwd_15 (621, .ireturn, 1) (List.mem_of_getElem? (i := 16) rfl)
  obtain ⟨hx, hb, hr, hml, hown, hts, hX, hbl, hlocks, hgv⟩ := id C0
  obtain ⟨hK, hI1, hI2, hZ1, hZ2, hA1, hA2, hdis⟩ := F
  obtain ⟨hP1, hP2, hS⟩ := hW
  obtain ⟨x, μ', ν', e1, e2, hR'⟩ := ok k μ ν hk hR
  refine lv_aload_n hx hb d599 rfl (lv_at hl 1 rfl) ?_
  refine l_arg (d := 1) C0 hS hl d600 d601 d602 d603 d604 rfl (by omega) hL ?_
  refine l_callV (n := 1) (w := (D, τ, LC, a1)) (c0 := 177) (as := [.int (xs (i + 1))]) (rest := []) (M' := MX9_urge) (ci := 0) (C := RX9) (T := TX9) (N := 5) (A0 := fun _ => True) hx hb hml hown hts hl.1 d605 (tX9_urge l D τ a1 _ _ _ e1) rfl rfl q972 q973 q974 q141 q975 (by decide +kernel) (by decide) rfl (Nat.le_of_ble_eq_true rfl) hcs hP1 hK hI1 hZ1 (by rintro q ⟨c, hc, rfl⟩; exact hA1 c hc) hS (by intro v hv; simp at hv; try (rcases hv with rfl | rfl | rfl | rfl <;> rfl); try (rcases hv with rfl | rfl | rfl <;> rfl); try (rcases hv with rfl | rfl <;> rfl); try (subst hv; rfl)) (by intro q hq; cases hq; rfl) (fun H1 locs1 hQ1 hS hkeep => ?_)
  have hP2 : va_P D gcl (gW (D, τ, LM, a2) ν) H1 := hP2.kept (fun k9 q9 h9 => by
    have hlt := (hP2 k9 q9 h9).lt
    refine hkeep _ hlt ?_
    rintro ⟨c, hc, he⟩
    have h8 : k9 < 17 := by have := (List.getElem?_eq_some_iff.mp h9).1; rw [gW_len] at this; exact this
    rw [gW_get (w := (D, τ, LM, a2)) h8] at h9
    cases h9
    exact hdis c k9 hc h8 he.symm)
  refine lv_aload_n hx hb d608 rfl (lv_at hl 2 rfl) ?_
  refine l_arg (d := 1) C0 hS hl d609 d610 d611 d612 d613 rfl (by omega) hL ?_
  refine l_callV (n := 1) (w := (D, τ, LM, a2)) (c0 := 0) (as := [.int (xs (i + 1))]) (rest := [.int x]) (M' := MX10_urge) (ci := 9) (C := RX10) (T := TX10) (N := 30) (A0 := fun _ => True) hx hb hml hown hts hl.1 d614 (tX10_urge l D τ a2 _ _ _ e2) rfl rfl q1635 q1636 q1637 q150 q1638 (by decide +kernel) (by decide) rfl (Nat.le_of_ble_eq_true rfl) hcs hP2 hK hI2 hZ2 (by rintro q ⟨c, hc, rfl⟩; exact hA2 c hc) hS (by intro v hv; simp at hv; try (rcases hv with rfl | rfl | rfl | rfl <;> rfl); try (rcases hv with rfl | rfl | rfl <;> rfl); try (rcases hv with rfl | rfl <;> rfl); try (subst hv; rfl)) (by intro q hq; cases hq; rfl) (fun H2 locs2 hQ2 hS hkeep2 => ?_)
  have hQ1 : va_P D gcl (gW (D, τ, LC, a1) μ') H2 := hQ1.kept (fun k9 q9 h9 => by
    have hlt := (hQ1 k9 q9 h9).lt
    refine hkeep2 _ hlt ?_
    rintro ⟨c, hc, he⟩
    have h8 : k9 < 182 := by have := (List.getElem?_eq_some_iff.mp h9).1; rw [gW_len] at this; exact this
    rw [gW_get (w := (D, τ, LC, a1)) h8] at h9
    cases h9
    exact hdis k9 c h8 hc he)
  refine lv_icmp_eq (tgt := 1172) hx hb d617 (by decide) (fun _ => ?_) (fun hc => absurd rfl hc)
  exact kk _ _ μ' ν' ⟨hQ1, hQ2, hS⟩ hR'
set_option maxRecDepth 20000 in
theorem lwd_16 : ∀ e ∈ ([(622, .aload_n 1, 1), (623, .aload_n 0, 1), (624, .iload_n 3, 1), (625, .iconst 1, 1), (626, .iadd, 1), (627, .iaload, 1), (628, .aload_n 0, 1), (629, .iload_n 3, 1), (630, .iconst 2, 1), (631, .iadd, 1), (632, .iaload, 1), (633, .invokevirtual 84, 3), (636, .aload_n 2, 1), (637, .aload_n 0, 1), (638, .iload_n 3, 1), (639, .iconst 1, 1), (640, .iadd, 1), (641, .iaload, 1), (642, .aload_n 0, 1), (643, .iload_n 3, 1), (644, .iconst 2, 1), (645, .iadd, 1), (646, .iaload, 1), (647, .invokevirtual 87, 3), (650, .if_icmp .eq 522, 3), (653, .iconst 0, 1), (654, .ireturn, 1)] : List (Nat × Instr × Nat)), decode code e.1 = .ok (e.2.1, e.2.2) := by decide +kernel
set_option maxHeartbeats 2000000 in
theorem lc_16 {D : va_G} {τ : ClassId × ClassId × ClassId × ClassId} {a1 a2 : Nat → Nat} {Rl : Nat → gMem → gMem → Prop} {i k : Nat} (C0 : lw_At p s m meth c b L xs) (hL : L ≤ 2560) (F : LF D τ a1 a2 s) (hl : lv_has ls 4 [(0, .ref b), (1, .ref (a1 177)), (2, .ref (a2 0)), (3, .int (nI i))]) (hi : i + 4 < L) (hk : k < 512) (hcs : cells ≤ 600000 ∧ slots ≤ 7302250) (ok : oK Rl mX9_urged mX10_urged [.int (xs (i + 1)), .int (xs (i + 2))])
    (kk : ∀ (H : Heap) (locs : List Loc) (μ ν : gMem), LW D τ a1 a2 s μ ν H locs → Rl (k + 1) μ ν → W p l e room_1 s m #[Value.ref b] below meth c H locs cells slots Q (F0 m 1172 ls [])) (H : Heap) (locs : List Loc) (μ ν : gMem) (hW : LW D τ a1 a2 s μ ν H locs) (hR : Rl k μ ν) : W p l e room_1 s m #[Value.ref b] below meth c H locs cells slots Q (F0 m 622 ls []) := by
  have d622 : decode code 622 = .ok (.aload_n 1, 1) := lwd_16 (622, .aload_n 1, 1) (List.mem_of_getElem? (i := 0) rfl)
  have d623 : decode code 623 = .ok (.aload_n 0, 1) := lwd_16 (623, .aload_n 0, 1) (List.mem_of_getElem? (i := 1) rfl)
  have d624 : decode code 624 = .ok (.iload_n 3, 1) := lwd_16 (624, .iload_n 3, 1) (List.mem_of_getElem? (i := 2) rfl)
  have d625 : decode code 625 = .ok (.iconst 1, 1) := lwd_16 (625, .iconst 1, 1) (List.mem_of_getElem? (i := 3) rfl)
  have d626 : decode code 626 = .ok (.iadd, 1) := lwd_16 (626, .iadd, 1) (List.mem_of_getElem? (i := 4) rfl)
  have d627 : decode code 627 = .ok (.iaload, 1) := lwd_16 (627, .iaload, 1) (List.mem_of_getElem? (i := 5) rfl)
  have d628 : decode code 628 = .ok (.aload_n 0, 1) := lwd_16 (628, .aload_n 0, 1) (List.mem_of_getElem? (i := 6) rfl)
  have d629 : decode code 629 = .ok (.iload_n 3, 1) := lwd_16 (629, .iload_n 3, 1) (List.mem_of_getElem? (i := 7) rfl)
  have d630 : decode code 630 = .ok (.iconst 2, 1) := lwd_16 (630, .iconst 2, 1) (List.mem_of_getElem? (i := 8) rfl)
  have d631 : decode code 631 = .ok (.iadd, 1) := lwd_16 (631, .iadd, 1) (List.mem_of_getElem? (i := 9) rfl)
  have d632 : decode code 632 = .ok (.iaload, 1) := lwd_16 (632, .iaload, 1) (List.mem_of_getElem? (i := 10) rfl)
  have d633 : decode code 633 = .ok (.invokevirtual 84, 3) := lwd_16 (633, .invokevirtual 84, 3) (List.mem_of_getElem? (i := 11) rfl)
  have d636 : decode code 636 = .ok (.aload_n 2, 1) := lwd_16 (636, .aload_n 2, 1) (List.mem_of_getElem? (i := 12) rfl)
  have d637 : decode code 637 = .ok (.aload_n 0, 1) := lwd_16 (637, .aload_n 0, 1) (List.mem_of_getElem? (i := 13) rfl)
  have d638 : decode code 638 = .ok (.iload_n 3, 1) := lwd_16 (638, .iload_n 3, 1) (List.mem_of_getElem? (i := 14) rfl)
  have d639 : decode code 639 = .ok (.iconst 1, 1) := lwd_16 (639, .iconst 1, 1) (List.mem_of_getElem? (i := 15) rfl)
  have d640 : decode code 640 = .ok (.iadd, 1) := lwd_16 (640, .iadd, 1) (List.mem_of_getElem? (i := 16) rfl)
  have d641 : decode code 641 = .ok (.iaload, 1) := lwd_16 (641, .iaload, 1) (List.mem_of_getElem? (i := 17) rfl)
  have d642 : decode code 642 = .ok (.aload_n 0, 1) := lwd_16 (642, .aload_n 0, 1) (List.mem_of_getElem? (i := 18) rfl)
  have d643 : decode code 643 = .ok (.iload_n 3, 1) := lwd_16 (643, .iload_n 3, 1) (List.mem_of_getElem? (i := 19) rfl)
  have d644 : decode code 644 = .ok (.iconst 2, 1) := lwd_16 (644, .iconst 2, 1) (List.mem_of_getElem? (i := 20) rfl)
  have d645 : decode code 645 = .ok (.iadd, 1) := lwd_16 (645, .iadd, 1) (List.mem_of_getElem? (i := 21) rfl)
  have d646 : decode code 646 = .ok (.iaload, 1) := lwd_16 (646, .iaload, 1) (List.mem_of_getElem? (i := 22) rfl)
  have d647 : decode code 647 = .ok (.invokevirtual 87, 3) := lwd_16 (647, .invokevirtual 87, 3) (List.mem_of_getElem? (i := 23) rfl)
  have d650 : decode code 650 = .ok (.if_icmp .eq 522, 3) := lwd_16 (650, .if_icmp .eq 522, 3) (List.mem_of_getElem? (i := 24) rfl)
  have d653 : decode code 653 = .ok (.iconst 0, 1) := lwd_16 (653, .iconst 0, 1) (List.mem_of_getElem? (i := 25) rfl)
  have d654 : decode code 654 = .ok (.ireturn, 1) := lwd_16 (654, .ireturn, 1) (List.mem_of_getElem? (i := 26) rfl)
  obtain ⟨hx, hb, hr, hml, hown, hts, hX, hbl, hlocks, hgv⟩ := id C0
  obtain ⟨hK, hI1, hI2, hZ1, hZ2, hA1, hA2, hdis⟩ := F
  obtain ⟨hP1, hP2, hS⟩ := hW
  obtain ⟨x, μ', ν', e1, e2, hR'⟩ := ok k μ ν hk hR
  refine lv_aload_n hx hb d622 rfl (lv_at hl 1 rfl) ?_
  refine l_arg (d := 1) C0 hS hl d623 d624 d625 d626 d627 rfl (by omega) hL ?_
  refine l_arg (d := 2) C0 hS hl d628 d629 d630 d631 d632 rfl (by omega) hL ?_
  refine l_callV (n := 2) (w := (D, τ, LC, a1)) (c0 := 177) (as := [.int (xs (i + 1)), .int (xs (i + 2))]) (rest := []) (M' := MX9_urged) (ci := 0) (C := RX9) (T := TX9) (N := 5) (A0 := fun _ => True) hx hb hml hown hts hl.1 d633 (tX9_urged l D τ a1 _ _ _ e1) rfl rfl q1003 q1004 q1005 q141 q1006 (by decide +kernel) (by decide) rfl (Nat.le_of_ble_eq_true rfl) hcs hP1 hK hI1 hZ1 (by rintro q ⟨c, hc, rfl⟩; exact hA1 c hc) hS (by intro v hv; simp at hv; try (rcases hv with rfl | rfl | rfl | rfl <;> rfl); try (rcases hv with rfl | rfl | rfl <;> rfl); try (rcases hv with rfl | rfl <;> rfl); try (subst hv; rfl)) (by intro q hq; cases hq; rfl) (fun H1 locs1 hQ1 hS hkeep => ?_)
  have hP2 : va_P D gcl (gW (D, τ, LM, a2) ν) H1 := hP2.kept (fun k9 q9 h9 => by
    have hlt := (hP2 k9 q9 h9).lt
    refine hkeep _ hlt ?_
    rintro ⟨c, hc, he⟩
    have h8 : k9 < 17 := by have := (List.getElem?_eq_some_iff.mp h9).1; rw [gW_len] at this; exact this
    rw [gW_get (w := (D, τ, LM, a2)) h8] at h9
    cases h9
    exact hdis c k9 hc h8 he.symm)
  refine lv_aload_n hx hb d636 rfl (lv_at hl 2 rfl) ?_
  refine l_arg (d := 1) C0 hS hl d637 d638 d639 d640 d641 rfl (by omega) hL ?_
  refine l_arg (d := 2) C0 hS hl d642 d643 d644 d645 d646 rfl (by omega) hL ?_
  refine l_callV (n := 2) (w := (D, τ, LM, a2)) (c0 := 0) (as := [.int (xs (i + 1)), .int (xs (i + 2))]) (rest := [.int x]) (M' := MX10_urged) (ci := 9) (C := RX10) (T := TX10) (N := 30) (A0 := fun _ => True) hx hb hml hown hts hl.1 d647 (tX10_urged l D τ a2 _ _ _ e2) rfl rfl q1619 q1620 q1621 q150 q1622 (by decide +kernel) (by decide) rfl (Nat.le_of_ble_eq_true rfl) hcs hP2 hK hI2 hZ2 (by rintro q ⟨c, hc, rfl⟩; exact hA2 c hc) hS (by intro v hv; simp at hv; try (rcases hv with rfl | rfl | rfl | rfl <;> rfl); try (rcases hv with rfl | rfl | rfl <;> rfl); try (rcases hv with rfl | rfl <;> rfl); try (subst hv; rfl)) (by intro q hq; cases hq; rfl) (fun H2 locs2 hQ2 hS hkeep2 => ?_)
  have hQ1 : va_P D gcl (gW (D, τ, LC, a1) μ') H2 := hQ1.kept (fun k9 q9 h9 => by
    have hlt := (hQ1 k9 q9 h9).lt
    refine hkeep2 _ hlt ?_
    rintro ⟨c, hc, he⟩
    have h8 : k9 < 182 := by have := (List.getElem?_eq_some_iff.mp h9).1; rw [gW_len] at this; exact this
    rw [gW_get (w := (D, τ, LC, a1)) h8] at h9
    cases h9
    exact hdis k9 c h8 hc he)
  refine lv_icmp_eq (tgt := 1172) hx hb d650 (by decide) (fun _ => ?_) (fun hc => absurd rfl hc)
  exact kk _ _ μ' ν' ⟨hQ1, hQ2, hS⟩ hR'
set_option maxRecDepth 20000 in
theorem lwd_17 : ∀ e ∈ ([(655, .aload_n 1, 1), (656, .aload_n 0, 1), (657, .iload_n 3, 1), (658, .iconst 1, 1), (659, .iadd, 1), (660, .iaload, 1), (661, .invokevirtual 88, 3), (664, .aload_n 2, 1), (665, .aload_n 0, 1), (666, .iload_n 3, 1), (667, .iconst 1, 1), (668, .iadd, 1), (669, .iaload, 1), (670, .invokevirtual 91, 3), (673, .if_icmp .eq 499, 3), (676, .iconst 0, 1), (677, .ireturn, 1)] : List (Nat × Instr × Nat)), decode code e.1 = .ok (e.2.1, e.2.2) := by decide +kernel
set_option maxHeartbeats 2000000 in
theorem lc_17 {D : va_G} {τ : ClassId × ClassId × ClassId × ClassId} {a1 a2 : Nat → Nat} {Rl : Nat → gMem → gMem → Prop} {i k : Nat} (C0 : lw_At p s m meth c b L xs) (hL : L ≤ 2560) (F : LF D τ a1 a2 s) (hl : lv_has ls 4 [(0, .ref b), (1, .ref (a1 177)), (2, .ref (a2 0)), (3, .int (nI i))]) (hi : i + 4 < L) (hk : k < 512) (hcs : cells ≤ 600000 ∧ slots ≤ 7302250) (ok : oK Rl mX9_thin mX10_thin [.int (xs (i + 1))])
    (kk : ∀ (H : Heap) (locs : List Loc) (μ ν : gMem), LW D τ a1 a2 s μ ν H locs → Rl (k + 1) μ ν → W p l e room_1 s m #[Value.ref b] below meth c H locs cells slots Q (F0 m 1172 ls [])) (H : Heap) (locs : List Loc) (μ ν : gMem) (hW : LW D τ a1 a2 s μ ν H locs) (hR : Rl k μ ν) : W p l e room_1 s m #[Value.ref b] below meth c H locs cells slots Q (F0 m 655 ls []) := by
  have d655 : decode code 655 = .ok (.aload_n 1, 1) := lwd_17 (655, .aload_n 1, 1) (List.mem_of_getElem? (i := 0) rfl)
  have d656 : decode code 656 = .ok (.aload_n 0, 1) := lwd_17 (656, .aload_n 0, 1) (List.mem_of_getElem? (i := 1) rfl)
  have d657 : decode code 657 = .ok (.iload_n 3, 1) := lwd_17 (657, .iload_n 3, 1) (List.mem_of_getElem? (i := 2) rfl)
  have d658 : decode code 658 = .ok (.iconst 1, 1) := lwd_17 (658, .iconst 1, 1) (List.mem_of_getElem? (i := 3) rfl)
  have d659 : decode code 659 = .ok (.iadd, 1) := lwd_17 (659, .iadd, 1) (List.mem_of_getElem? (i := 4) rfl)
  have d660 : decode code 660 = .ok (.iaload, 1) := lwd_17 (660, .iaload, 1) (List.mem_of_getElem? (i := 5) rfl)
  have d661 : decode code 661 = .ok (.invokevirtual 88, 3) := lwd_17 (661, .invokevirtual 88, 3) (List.mem_of_getElem? (i := 6) rfl)
  have d664 : decode code 664 = .ok (.aload_n 2, 1) := lwd_17 (664, .aload_n 2, 1) (List.mem_of_getElem? (i := 7) rfl)
  have d665 : decode code 665 = .ok (.aload_n 0, 1) := lwd_17 (665, .aload_n 0, 1) (List.mem_of_getElem? (i := 8) rfl)
  have d666 : decode code 666 = .ok (.iload_n 3, 1) := lwd_17 (666, .iload_n 3, 1) (List.mem_of_getElem? (i := 9) rfl)
  have d667 : decode code 667 = .ok (.iconst 1, 1) := lwd_17 (667, .iconst 1, 1) (List.mem_of_getElem? (i := 10) rfl)
  have d668 : decode code 668 = .ok (.iadd, 1) := lwd_17 (668, .iadd, 1) (List.mem_of_getElem? (i := 11) rfl)
  have d669 : decode code 669 = .ok (.iaload, 1) := lwd_17 (669, .iaload, 1) (List.mem_of_getElem? (i := 12) rfl)
  have d670 : decode code 670 = .ok (.invokevirtual 91, 3) := lwd_17 (670, .invokevirtual 91, 3) (List.mem_of_getElem? (i := 13) rfl)
  have d673 : decode code 673 = .ok (.if_icmp .eq 499, 3) := lwd_17 (673, .if_icmp .eq 499, 3) (List.mem_of_getElem? (i := 14) rfl)
  have d676 : decode code 676 = .ok (.iconst 0, 1) := lwd_17 (676, .iconst 0, 1) (List.mem_of_getElem? (i := 15) rfl)
  have d677 : decode code 677 = .ok (.ireturn, 1) := lwd_17 (677, .ireturn, 1) (List.mem_of_getElem? (i := 16) rfl)
  obtain ⟨hx, hb, hr, hml, hown, hts, hX, hbl, hlocks, hgv⟩ := id C0
  obtain ⟨hK, hI1, hI2, hZ1, hZ2, hA1, hA2, hdis⟩ := F
  obtain ⟨hP1, hP2, hS⟩ := hW
  obtain ⟨x, μ', ν', e1, e2, hR'⟩ := ok k μ ν hk hR
  refine lv_aload_n hx hb d655 rfl (lv_at hl 1 rfl) ?_
  refine l_arg (d := 1) C0 hS hl d656 d657 d658 d659 d660 rfl (by omega) hL ?_
  refine l_callV (n := 1) (w := (D, τ, LC, a1)) (c0 := 177) (as := [.int (xs (i + 1))]) (rest := []) (M' := MX9_thin) (ci := 0) (C := RX9) (T := TX9) (N := 5) (A0 := fun _ => True) hx hb hml hown hts hl.1 d661 (tX9_thin l D τ a1 _ _ _ e1) rfl rfl q1011 q1012 q1013 q141 q1014 (by decide +kernel) (by decide) rfl (Nat.le_of_ble_eq_true rfl) hcs hP1 hK hI1 hZ1 (by rintro q ⟨c, hc, rfl⟩; exact hA1 c hc) hS (by intro v hv; simp at hv; try (rcases hv with rfl | rfl | rfl | rfl <;> rfl); try (rcases hv with rfl | rfl | rfl <;> rfl); try (rcases hv with rfl | rfl <;> rfl); try (subst hv; rfl)) (by intro q hq; cases hq; rfl) (fun H1 locs1 hQ1 hS hkeep => ?_)
  have hP2 : va_P D gcl (gW (D, τ, LM, a2) ν) H1 := hP2.kept (fun k9 q9 h9 => by
    have hlt := (hP2 k9 q9 h9).lt
    refine hkeep _ hlt ?_
    rintro ⟨c, hc, he⟩
    have h8 : k9 < 17 := by have := (List.getElem?_eq_some_iff.mp h9).1; rw [gW_len] at this; exact this
    rw [gW_get (w := (D, τ, LM, a2)) h8] at h9
    cases h9
    exact hdis c k9 hc h8 he.symm)
  refine lv_aload_n hx hb d664 rfl (lv_at hl 2 rfl) ?_
  refine l_arg (d := 1) C0 hS hl d665 d666 d667 d668 d669 rfl (by omega) hL ?_
  refine l_callV (n := 1) (w := (D, τ, LM, a2)) (c0 := 0) (as := [.int (xs (i + 1))]) (rest := [.int x]) (M' := MX10_thin) (ci := 9) (C := RX10) (T := TX10) (N := 30) (A0 := fun _ => True) hx hb hml hown hts hl.1 d670 (tX10_thin l D τ a2 _ _ _ e2) rfl rfl q1639 q1640 q1641 q150 q1642 (by decide +kernel) (by decide) rfl (Nat.le_of_ble_eq_true rfl) hcs hP2 hK hI2 hZ2 (by rintro q ⟨c, hc, rfl⟩; exact hA2 c hc) hS (by intro v hv; simp at hv; try (rcases hv with rfl | rfl | rfl | rfl <;> rfl); try (rcases hv with rfl | rfl | rfl <;> rfl); try (rcases hv with rfl | rfl <;> rfl); try (subst hv; rfl)) (by intro q hq; cases hq; rfl) (fun H2 locs2 hQ2 hS hkeep2 => ?_)
  have hQ1 : va_P D gcl (gW (D, τ, LC, a1) μ') H2 := hQ1.kept (fun k9 q9 h9 => by
    have hlt := (hQ1 k9 q9 h9).lt
    refine hkeep2 _ hlt ?_
    rintro ⟨c, hc, he⟩
    have h8 : k9 < 182 := by have := (List.getElem?_eq_some_iff.mp h9).1; rw [gW_len] at this; exact this
    rw [gW_get (w := (D, τ, LC, a1)) h8] at h9
    cases h9
    exact hdis k9 c h8 hc he)
  refine lv_icmp_eq (tgt := 1172) hx hb d673 (by decide) (fun _ => ?_) (fun hc => absurd rfl hc)
  exact kk _ _ μ' ν' ⟨hQ1, hQ2, hS⟩ hR'
set_option maxRecDepth 20000 in
theorem lwd_18 : ∀ e ∈ ([(678, .aload_n 1, 1), (679, .aload_n 0, 1), (680, .iload_n 3, 1), (681, .iconst 1, 1), (682, .iadd, 1), (683, .iaload, 1), (684, .aload_n 0, 1), (685, .iload_n 3, 1), (686, .iconst 2, 1), (687, .iadd, 1), (688, .iaload, 1), (689, .invokevirtual 92, 3), (692, .aload_n 2, 1), (693, .aload_n 0, 1), (694, .iload_n 3, 1), (695, .iconst 1, 1), (696, .iadd, 1), (697, .iaload, 1), (698, .aload_n 0, 1), (699, .iload_n 3, 1), (700, .iconst 2, 1), (701, .iadd, 1), (702, .iaload, 1), (703, .invokevirtual 95, 3), (706, .if_icmp .eq 466, 3), (709, .iconst 0, 1), (710, .ireturn, 1)] : List (Nat × Instr × Nat)), decode code e.1 = .ok (e.2.1, e.2.2) := by decide +kernel
set_option maxHeartbeats 2000000 in
theorem lc_18 {D : va_G} {τ : ClassId × ClassId × ClassId × ClassId} {a1 a2 : Nat → Nat} {Rl : Nat → gMem → gMem → Prop} {i k : Nat} (C0 : lw_At p s m meth c b L xs) (hL : L ≤ 2560) (F : LF D τ a1 a2 s) (hl : lv_has ls 4 [(0, .ref b), (1, .ref (a1 177)), (2, .ref (a2 0)), (3, .int (nI i))]) (hi : i + 4 < L) (hk : k < 512) (hcs : cells ≤ 600000 ∧ slots ≤ 7302250) (ok : oK Rl mX9_where mX10_where [.int (xs (i + 1)), .int (xs (i + 2))])
    (kk : ∀ (H : Heap) (locs : List Loc) (μ ν : gMem), LW D τ a1 a2 s μ ν H locs → Rl (k + 1) μ ν → W p l e room_1 s m #[Value.ref b] below meth c H locs cells slots Q (F0 m 1172 ls [])) (H : Heap) (locs : List Loc) (μ ν : gMem) (hW : LW D τ a1 a2 s μ ν H locs) (hR : Rl k μ ν) : W p l e room_1 s m #[Value.ref b] below meth c H locs cells slots Q (F0 m 678 ls []) := by
  have d678 : decode code 678 = .ok (.aload_n 1, 1) := lwd_18 (678, .aload_n 1, 1) (List.mem_of_getElem? (i := 0) rfl)
  have d679 : decode code 679 = .ok (.aload_n 0, 1) := lwd_18 (679, .aload_n 0, 1) (List.mem_of_getElem? (i := 1) rfl)
  have d680 : decode code 680 = .ok (.iload_n 3, 1) := lwd_18 (680, .iload_n 3, 1) (List.mem_of_getElem? (i := 2) rfl)
  have d681 : decode code 681 = .ok (.iconst 1, 1) := lwd_18 (681, .iconst 1, 1) (List.mem_of_getElem? (i := 3) rfl)
  have d682 : decode code 682 = .ok (.iadd, 1) := lwd_18 (682, .iadd, 1) (List.mem_of_getElem? (i := 4) rfl)
  have d683 : decode code 683 = .ok (.iaload, 1) := lwd_18 (683, .iaload, 1) (List.mem_of_getElem? (i := 5) rfl)
  have d684 : decode code 684 = .ok (.aload_n 0, 1) := lwd_18 (684, .aload_n 0, 1) (List.mem_of_getElem? (i := 6) rfl)
  have d685 : decode code 685 = .ok (.iload_n 3, 1) := lwd_18 (685, .iload_n 3, 1) (List.mem_of_getElem? (i := 7) rfl)
  have d686 : decode code 686 = .ok (.iconst 2, 1) := lwd_18 (686, .iconst 2, 1) (List.mem_of_getElem? (i := 8) rfl)
  have d687 : decode code 687 = .ok (.iadd, 1) := lwd_18 (687, .iadd, 1) (List.mem_of_getElem? (i := 9) rfl)
  have d688 : decode code 688 = .ok (.iaload, 1) := lwd_18 (688, .iaload, 1) (List.mem_of_getElem? (i := 10) rfl)
  have d689 : decode code 689 = .ok (.invokevirtual 92, 3) := lwd_18 (689, .invokevirtual 92, 3) (List.mem_of_getElem? (i := 11) rfl)
  have d692 : decode code 692 = .ok (.aload_n 2, 1) := lwd_18 (692, .aload_n 2, 1) (List.mem_of_getElem? (i := 12) rfl)
  have d693 : decode code 693 = .ok (.aload_n 0, 1) := lwd_18 (693, .aload_n 0, 1) (List.mem_of_getElem? (i := 13) rfl)
  have d694 : decode code 694 = .ok (.iload_n 3, 1) := lwd_18 (694, .iload_n 3, 1) (List.mem_of_getElem? (i := 14) rfl)
  have d695 : decode code 695 = .ok (.iconst 1, 1) := lwd_18 (695, .iconst 1, 1) (List.mem_of_getElem? (i := 15) rfl)
  have d696 : decode code 696 = .ok (.iadd, 1) := lwd_18 (696, .iadd, 1) (List.mem_of_getElem? (i := 16) rfl)
  have d697 : decode code 697 = .ok (.iaload, 1) := lwd_18 (697, .iaload, 1) (List.mem_of_getElem? (i := 17) rfl)
  have d698 : decode code 698 = .ok (.aload_n 0, 1) := lwd_18 (698, .aload_n 0, 1) (List.mem_of_getElem? (i := 18) rfl)
  have d699 : decode code 699 = .ok (.iload_n 3, 1) := lwd_18 (699, .iload_n 3, 1) (List.mem_of_getElem? (i := 19) rfl)
  have d700 : decode code 700 = .ok (.iconst 2, 1) := lwd_18 (700, .iconst 2, 1) (List.mem_of_getElem? (i := 20) rfl)
  have d701 : decode code 701 = .ok (.iadd, 1) := lwd_18 (701, .iadd, 1) (List.mem_of_getElem? (i := 21) rfl)
  have d702 : decode code 702 = .ok (.iaload, 1) := lwd_18 (702, .iaload, 1) (List.mem_of_getElem? (i := 22) rfl)
  have d703 : decode code 703 = .ok (.invokevirtual 95, 3) := lwd_18 (703, .invokevirtual 95, 3) (List.mem_of_getElem? (i := 23) rfl)
  have d706 : decode code 706 = .ok (.if_icmp .eq 466, 3) := lwd_18 (706, .if_icmp .eq 466, 3) (List.mem_of_getElem? (i := 24) rfl)
  have d709 : decode code 709 = .ok (.iconst 0, 1) := lwd_18 (709, .iconst 0, 1) (List.mem_of_getElem? (i := 25) rfl)
  have d710 : decode code 710 = .ok (.ireturn, 1) := lwd_18 (710, .ireturn, 1) (List.mem_of_getElem? (i := 26) rfl)
  obtain ⟨hx, hb, hr, hml, hown, hts, hX, hbl, hlocks, hgv⟩ := id C0
  obtain ⟨hK, hI1, hI2, hZ1, hZ2, hA1, hA2, hdis⟩ := F
  obtain ⟨hP1, hP2, hS⟩ := hW
  obtain ⟨x, μ', ν', e1, e2, hR'⟩ := ok k μ ν hk hR
  refine lv_aload_n hx hb d678 rfl (lv_at hl 1 rfl) ?_
  refine l_arg (d := 1) C0 hS hl d679 d680 d681 d682 d683 rfl (by omega) hL ?_
  refine l_arg (d := 2) C0 hS hl d684 d685 d686 d687 d688 rfl (by omega) hL ?_
  refine l_callV (n := 2) (w := (D, τ, LC, a1)) (c0 := 177) (as := [.int (xs (i + 1)), .int (xs (i + 2))]) (rest := []) (M' := MX9_where) (ci := 0) (C := RX9) (T := TX9) (N := 5) (A0 := fun _ => True) hx hb hml hown hts hl.1 d689 (tX9_where l D τ a1 _ _ _ e1) rfl rfl q1036 q1037 q1038 q141 q1039 (by decide +kernel) (by decide) rfl (Nat.le_of_ble_eq_true rfl) hcs hP1 hK hI1 hZ1 (by rintro q ⟨c, hc, rfl⟩; exact hA1 c hc) hS (by intro v hv; simp at hv; try (rcases hv with rfl | rfl | rfl | rfl <;> rfl); try (rcases hv with rfl | rfl | rfl <;> rfl); try (rcases hv with rfl | rfl <;> rfl); try (subst hv; rfl)) (by intro q hq; cases hq; rfl) (fun H1 locs1 hQ1 hS hkeep => ?_)
  have hP2 : va_P D gcl (gW (D, τ, LM, a2) ν) H1 := hP2.kept (fun k9 q9 h9 => by
    have hlt := (hP2 k9 q9 h9).lt
    refine hkeep _ hlt ?_
    rintro ⟨c, hc, he⟩
    have h8 : k9 < 17 := by have := (List.getElem?_eq_some_iff.mp h9).1; rw [gW_len] at this; exact this
    rw [gW_get (w := (D, τ, LM, a2)) h8] at h9
    cases h9
    exact hdis c k9 hc h8 he.symm)
  refine lv_aload_n hx hb d692 rfl (lv_at hl 2 rfl) ?_
  refine l_arg (d := 1) C0 hS hl d693 d694 d695 d696 d697 rfl (by omega) hL ?_
  refine l_arg (d := 2) C0 hS hl d698 d699 d700 d701 d702 rfl (by omega) hL ?_
  refine l_callV (n := 2) (w := (D, τ, LM, a2)) (c0 := 0) (as := [.int (xs (i + 1)), .int (xs (i + 2))]) (rest := [.int x]) (M' := MX10_where) (ci := 9) (C := RX10) (T := TX10) (N := 30) (A0 := fun _ => True) hx hb hml hown hts hl.1 d703 (tX10_where l D τ a2 _ _ _ e2) rfl rfl q1429 q1430 q1431 q150 q1432 (by decide +kernel) (by decide) rfl (Nat.le_of_ble_eq_true rfl) hcs hP2 hK hI2 hZ2 (by rintro q ⟨c, hc, rfl⟩; exact hA2 c hc) hS (by intro v hv; simp at hv; try (rcases hv with rfl | rfl | rfl | rfl <;> rfl); try (rcases hv with rfl | rfl | rfl <;> rfl); try (rcases hv with rfl | rfl <;> rfl); try (subst hv; rfl)) (by intro q hq; cases hq; rfl) (fun H2 locs2 hQ2 hS hkeep2 => ?_)
  have hQ1 : va_P D gcl (gW (D, τ, LC, a1) μ') H2 := hQ1.kept (fun k9 q9 h9 => by
    have hlt := (hQ1 k9 q9 h9).lt
    refine hkeep2 _ hlt ?_
    rintro ⟨c, hc, he⟩
    have h8 : k9 < 182 := by have := (List.getElem?_eq_some_iff.mp h9).1; rw [gW_len] at this; exact this
    rw [gW_get (w := (D, τ, LC, a1)) h8] at h9
    cases h9
    exact hdis k9 c h8 hc he)
  refine lv_icmp_eq (tgt := 1172) hx hb d706 (by decide) (fun _ => ?_) (fun hc => absurd rfl hc)
  exact kk _ _ μ' ν' ⟨hQ1, hQ2, hS⟩ hR'
set_option maxRecDepth 20000 in
theorem lwd_19 : ∀ e ∈ ([(711, .aload_n 1, 1), (712, .aload_n 0, 1), (713, .iload_n 3, 1), (714, .iconst 1, 1), (715, .iadd, 1), (716, .iaload, 1), (717, .aload_n 0, 1), (718, .iload_n 3, 1), (719, .iconst 2, 1), (720, .iadd, 1), (721, .iaload, 1), (722, .aload_n 0, 1), (723, .iload_n 3, 1), (724, .iconst 3, 1), (725, .iadd, 1), (726, .iaload, 1), (727, .invokevirtual 96, 3), (730, .aload_n 2, 1), (731, .aload_n 0, 1), (732, .iload_n 3, 1), (733, .iconst 1, 1), (734, .iadd, 1), (735, .iaload, 1), (736, .aload_n 0, 1), (737, .iload_n 3, 1), (738, .iconst 2, 1), (739, .iadd, 1), (740, .iaload, 1), (741, .aload_n 0, 1), (742, .iload_n 3, 1), (743, .iconst 3, 1), (744, .iadd, 1), (745, .iaload, 1), (746, .invokevirtual 100, 3), (749, .if_icmp .eq 423, 3), (752, .iconst 0, 1), (753, .ireturn, 1)] : List (Nat × Instr × Nat)), decode code e.1 = .ok (e.2.1, e.2.2) := by decide +kernel
set_option maxHeartbeats 2000000 in
theorem lc_19 {D : va_G} {τ : ClassId × ClassId × ClassId × ClassId} {a1 a2 : Nat → Nat} {Rl : Nat → gMem → gMem → Prop} {i k : Nat} (C0 : lw_At p s m meth c b L xs) (hL : L ≤ 2560) (F : LF D τ a1 a2 s) (hl : lv_has ls 4 [(0, .ref b), (1, .ref (a1 177)), (2, .ref (a2 0)), (3, .int (nI i))]) (hi : i + 4 < L) (hk : k < 512) (hcs : cells ≤ 600000 ∧ slots ≤ 7302250) (ok : oK Rl mX9_free mX10_free [.int (xs (i + 1)), .int (xs (i + 2)), .int (xs (i + 3))])
    (kk : ∀ (H : Heap) (locs : List Loc) (μ ν : gMem), LW D τ a1 a2 s μ ν H locs → Rl (k + 1) μ ν → W p l e room_1 s m #[Value.ref b] below meth c H locs cells slots Q (F0 m 1172 ls [])) (H : Heap) (locs : List Loc) (μ ν : gMem) (hW : LW D τ a1 a2 s μ ν H locs) (hR : Rl k μ ν) : W p l e room_1 s m #[Value.ref b] below meth c H locs cells slots Q (F0 m 711 ls []) := by
  have d711 : decode code 711 = .ok (.aload_n 1, 1) := lwd_19 (711, .aload_n 1, 1) (List.mem_of_getElem? (i := 0) rfl)
  have d712 : decode code 712 = .ok (.aload_n 0, 1) := lwd_19 (712, .aload_n 0, 1) (List.mem_of_getElem? (i := 1) rfl)
  have d713 : decode code 713 = .ok (.iload_n 3, 1) := lwd_19 (713, .iload_n 3, 1) (List.mem_of_getElem? (i := 2) rfl)
  have d714 : decode code 714 = .ok (.iconst 1, 1) := lwd_19 (714, .iconst 1, 1) (List.mem_of_getElem? (i := 3) rfl)
  have d715 : decode code 715 = .ok (.iadd, 1) := lwd_19 (715, .iadd, 1) (List.mem_of_getElem? (i := 4) rfl)
  have d716 : decode code 716 = .ok (.iaload, 1) := lwd_19 (716, .iaload, 1) (List.mem_of_getElem? (i := 5) rfl)
  have d717 : decode code 717 = .ok (.aload_n 0, 1) := lwd_19 (717, .aload_n 0, 1) (List.mem_of_getElem? (i := 6) rfl)
  have d718 : decode code 718 = .ok (.iload_n 3, 1) := lwd_19 (718, .iload_n 3, 1) (List.mem_of_getElem? (i := 7) rfl)
  have d719 : decode code 719 = .ok (.iconst 2, 1) := lwd_19 (719, .iconst 2, 1) (List.mem_of_getElem? (i := 8) rfl)
  have d720 : decode code 720 = .ok (.iadd, 1) := lwd_19 (720, .iadd, 1) (List.mem_of_getElem? (i := 9) rfl)
  have d721 : decode code 721 = .ok (.iaload, 1) := lwd_19 (721, .iaload, 1) (List.mem_of_getElem? (i := 10) rfl)
  have d722 : decode code 722 = .ok (.aload_n 0, 1) := lwd_19 (722, .aload_n 0, 1) (List.mem_of_getElem? (i := 11) rfl)
  have d723 : decode code 723 = .ok (.iload_n 3, 1) := lwd_19 (723, .iload_n 3, 1) (List.mem_of_getElem? (i := 12) rfl)
  have d724 : decode code 724 = .ok (.iconst 3, 1) := lwd_19 (724, .iconst 3, 1) (List.mem_of_getElem? (i := 13) rfl)
  have d725 : decode code 725 = .ok (.iadd, 1) := lwd_19 (725, .iadd, 1) (List.mem_of_getElem? (i := 14) rfl)
  have d726 : decode code 726 = .ok (.iaload, 1) := lwd_19 (726, .iaload, 1) (List.mem_of_getElem? (i := 15) rfl)
  have d727 : decode code 727 = .ok (.invokevirtual 96, 3) := lwd_19 (727, .invokevirtual 96, 3) (List.mem_of_getElem? (i := 16) rfl)
  have d730 : decode code 730 = .ok (.aload_n 2, 1) := lwd_19 (730, .aload_n 2, 1) (List.mem_of_getElem? (i := 17) rfl)
  have d731 : decode code 731 = .ok (.aload_n 0, 1) := lwd_19 (731, .aload_n 0, 1) (List.mem_of_getElem? (i := 18) rfl)
  have d732 : decode code 732 = .ok (.iload_n 3, 1) := lwd_19 (732, .iload_n 3, 1) (List.mem_of_getElem? (i := 19) rfl)
  have d733 : decode code 733 = .ok (.iconst 1, 1) := lwd_19 (733, .iconst 1, 1) (List.mem_of_getElem? (i := 20) rfl)
  have d734 : decode code 734 = .ok (.iadd, 1) := lwd_19 (734, .iadd, 1) (List.mem_of_getElem? (i := 21) rfl)
  have d735 : decode code 735 = .ok (.iaload, 1) := lwd_19 (735, .iaload, 1) (List.mem_of_getElem? (i := 22) rfl)
  have d736 : decode code 736 = .ok (.aload_n 0, 1) := lwd_19 (736, .aload_n 0, 1) (List.mem_of_getElem? (i := 23) rfl)
  have d737 : decode code 737 = .ok (.iload_n 3, 1) := lwd_19 (737, .iload_n 3, 1) (List.mem_of_getElem? (i := 24) rfl)
  have d738 : decode code 738 = .ok (.iconst 2, 1) := lwd_19 (738, .iconst 2, 1) (List.mem_of_getElem? (i := 25) rfl)
  have d739 : decode code 739 = .ok (.iadd, 1) := lwd_19 (739, .iadd, 1) (List.mem_of_getElem? (i := 26) rfl)
  have d740 : decode code 740 = .ok (.iaload, 1) := lwd_19 (740, .iaload, 1) (List.mem_of_getElem? (i := 27) rfl)
  have d741 : decode code 741 = .ok (.aload_n 0, 1) := lwd_19 (741, .aload_n 0, 1) (List.mem_of_getElem? (i := 28) rfl)
  have d742 : decode code 742 = .ok (.iload_n 3, 1) := lwd_19 (742, .iload_n 3, 1) (List.mem_of_getElem? (i := 29) rfl)
  have d743 : decode code 743 = .ok (.iconst 3, 1) := lwd_19 (743, .iconst 3, 1) (List.mem_of_getElem? (i := 30) rfl)
  have d744 : decode code 744 = .ok (.iadd, 1) := lwd_19 (744, .iadd, 1) (List.mem_of_getElem? (i := 31) rfl)
  have d745 : decode code 745 = .ok (.iaload, 1) := lwd_19 (745, .iaload, 1) (List.mem_of_getElem? (i := 32) rfl)
  have d746 : decode code 746 = .ok (.invokevirtual 100, 3) := lwd_19 (746, .invokevirtual 100, 3) (List.mem_of_getElem? (i := 33) rfl)
  have d749 : decode code 749 = .ok (.if_icmp .eq 423, 3) := lwd_19 (749, .if_icmp .eq 423, 3) (List.mem_of_getElem? (i := 34) rfl)
  have d752 : decode code 752 = .ok (.iconst 0, 1) := lwd_19 (752, .iconst 0, 1) (List.mem_of_getElem? (i := 35) rfl)
  have d753 : decode code 753 = .ok (.ireturn, 1) := lwd_19 (753, .ireturn, 1) (List.mem_of_getElem? (i := 36) rfl)
  obtain ⟨hx, hb, hr, hml, hown, hts, hX, hbl, hlocks, hgv⟩ := id C0
  obtain ⟨hK, hI1, hI2, hZ1, hZ2, hA1, hA2, hdis⟩ := F
  obtain ⟨hP1, hP2, hS⟩ := hW
  obtain ⟨x, μ', ν', e1, e2, hR'⟩ := ok k μ ν hk hR
  refine lv_aload_n hx hb d711 rfl (lv_at hl 1 rfl) ?_
  refine l_arg (d := 1) C0 hS hl d712 d713 d714 d715 d716 rfl (by omega) hL ?_
  refine l_arg (d := 2) C0 hS hl d717 d718 d719 d720 d721 rfl (by omega) hL ?_
  refine l_arg (d := 3) C0 hS hl d722 d723 d724 d725 d726 rfl (by omega) hL ?_
  refine l_callV (n := 3) (w := (D, τ, LC, a1)) (c0 := 177) (as := [.int (xs (i + 1)), .int (xs (i + 2)), .int (xs (i + 3))]) (rest := []) (M' := MX9_free) (ci := 0) (C := RX9) (T := TX9) (N := 5) (A0 := fun _ => True) hx hb hml hown hts hl.1 d727 (tX9_free l D τ a1 _ _ _ e1) rfl rfl q1045 q1046 q1047 q141 q1048 (by decide +kernel) (by decide) rfl (Nat.le_of_ble_eq_true rfl) hcs hP1 hK hI1 hZ1 (by rintro q ⟨c, hc, rfl⟩; exact hA1 c hc) hS (by intro v hv; simp at hv; try (rcases hv with rfl | rfl | rfl | rfl <;> rfl); try (rcases hv with rfl | rfl | rfl <;> rfl); try (rcases hv with rfl | rfl <;> rfl); try (subst hv; rfl)) (by intro q hq; cases hq; rfl) (fun H1 locs1 hQ1 hS hkeep => ?_)
  have hP2 : va_P D gcl (gW (D, τ, LM, a2) ν) H1 := hP2.kept (fun k9 q9 h9 => by
    have hlt := (hP2 k9 q9 h9).lt
    refine hkeep _ hlt ?_
    rintro ⟨c, hc, he⟩
    have h8 : k9 < 17 := by have := (List.getElem?_eq_some_iff.mp h9).1; rw [gW_len] at this; exact this
    rw [gW_get (w := (D, τ, LM, a2)) h8] at h9
    cases h9
    exact hdis c k9 hc h8 he.symm)
  refine lv_aload_n hx hb d730 rfl (lv_at hl 2 rfl) ?_
  refine l_arg (d := 1) C0 hS hl d731 d732 d733 d734 d735 rfl (by omega) hL ?_
  refine l_arg (d := 2) C0 hS hl d736 d737 d738 d739 d740 rfl (by omega) hL ?_
  refine l_arg (d := 3) C0 hS hl d741 d742 d743 d744 d745 rfl (by omega) hL ?_
  refine l_callV (n := 3) (w := (D, τ, LM, a2)) (c0 := 0) (as := [.int (xs (i + 1)), .int (xs (i + 2)), .int (xs (i + 3))]) (rest := [.int x]) (M' := MX10_free) (ci := 9) (C := RX10) (T := TX10) (N := 30) (A0 := fun _ => True) hx hb hml hown hts hl.1 d746 (tX10_free l D τ a2 _ _ _ e2) rfl rfl q1736 q1737 q1738 q150 q1739 (by decide +kernel) (by decide) rfl (Nat.le_of_ble_eq_true rfl) hcs hP2 hK hI2 hZ2 (by rintro q ⟨c, hc, rfl⟩; exact hA2 c hc) hS (by intro v hv; simp at hv; try (rcases hv with rfl | rfl | rfl | rfl <;> rfl); try (rcases hv with rfl | rfl | rfl <;> rfl); try (rcases hv with rfl | rfl <;> rfl); try (subst hv; rfl)) (by intro q hq; cases hq; rfl) (fun H2 locs2 hQ2 hS hkeep2 => ?_)
  have hQ1 : va_P D gcl (gW (D, τ, LC, a1) μ') H2 := hQ1.kept (fun k9 q9 h9 => by
    have hlt := (hQ1 k9 q9 h9).lt
    refine hkeep2 _ hlt ?_
    rintro ⟨c, hc, he⟩
    have h8 : k9 < 182 := by have := (List.getElem?_eq_some_iff.mp h9).1; rw [gW_len] at this; exact this
    rw [gW_get (w := (D, τ, LC, a1)) h8] at h9
    cases h9
    exact hdis k9 c h8 hc he)
  refine lv_icmp_eq (tgt := 1172) hx hb d749 (by decide) (fun _ => ?_) (fun hc => absurd rfl hc)
  exact kk _ _ μ' ν' ⟨hQ1, hQ2, hS⟩ hR'
set_option maxRecDepth 20000 in
theorem lwd_20 : ∀ e ∈ ([(754, .aload_n 1, 1), (755, .aload_n 0, 1), (756, .iload_n 3, 1), (757, .iconst 1, 1), (758, .iadd, 1), (759, .iaload, 1), (760, .aload_n 0, 1), (761, .iload_n 3, 1), (762, .iconst 2, 1), (763, .iadd, 1), (764, .iaload, 1), (765, .invokevirtual 101, 3), (768, .aload_n 2, 1), (769, .aload_n 0, 1), (770, .iload_n 3, 1), (771, .iconst 1, 1), (772, .iadd, 1), (773, .iaload, 1), (774, .aload_n 0, 1), (775, .iload_n 3, 1), (776, .iconst 2, 1), (777, .iadd, 1), (778, .iaload, 1), (779, .invokevirtual 104, 3), (782, .if_icmp .eq 390, 3), (785, .iconst 0, 1), (786, .ireturn, 1)] : List (Nat × Instr × Nat)), decode code e.1 = .ok (e.2.1, e.2.2) := by decide +kernel
set_option maxHeartbeats 2000000 in
theorem lc_20 {D : va_G} {τ : ClassId × ClassId × ClassId × ClassId} {a1 a2 : Nat → Nat} {Rl : Nat → gMem → gMem → Prop} {i k : Nat} (C0 : lw_At p s m meth c b L xs) (hL : L ≤ 2560) (F : LF D τ a1 a2 s) (hl : lv_has ls 4 [(0, .ref b), (1, .ref (a1 177)), (2, .ref (a2 0)), (3, .int (nI i))]) (hi : i + 4 < L) (hk : k < 512) (hcs : cells ≤ 600000 ∧ slots ≤ 7302250) (ok : oK Rl mX9_cell mX10_cell [.int (xs (i + 1)), .int (xs (i + 2))])
    (kk : ∀ (H : Heap) (locs : List Loc) (μ ν : gMem), LW D τ a1 a2 s μ ν H locs → Rl (k + 1) μ ν → W p l e room_1 s m #[Value.ref b] below meth c H locs cells slots Q (F0 m 1172 ls [])) (H : Heap) (locs : List Loc) (μ ν : gMem) (hW : LW D τ a1 a2 s μ ν H locs) (hR : Rl k μ ν) : W p l e room_1 s m #[Value.ref b] below meth c H locs cells slots Q (F0 m 754 ls []) := by
  have d754 : decode code 754 = .ok (.aload_n 1, 1) := lwd_20 (754, .aload_n 1, 1) (List.mem_of_getElem? (i := 0) rfl)
  have d755 : decode code 755 = .ok (.aload_n 0, 1) := lwd_20 (755, .aload_n 0, 1) (List.mem_of_getElem? (i := 1) rfl)
  have d756 : decode code 756 = .ok (.iload_n 3, 1) := lwd_20 (756, .iload_n 3, 1) (List.mem_of_getElem? (i := 2) rfl)
  have d757 : decode code 757 = .ok (.iconst 1, 1) := lwd_20 (757, .iconst 1, 1) (List.mem_of_getElem? (i := 3) rfl)
  have d758 : decode code 758 = .ok (.iadd, 1) := lwd_20 (758, .iadd, 1) (List.mem_of_getElem? (i := 4) rfl)
  have d759 : decode code 759 = .ok (.iaload, 1) := lwd_20 (759, .iaload, 1) (List.mem_of_getElem? (i := 5) rfl)
  have d760 : decode code 760 = .ok (.aload_n 0, 1) := lwd_20 (760, .aload_n 0, 1) (List.mem_of_getElem? (i := 6) rfl)
  have d761 : decode code 761 = .ok (.iload_n 3, 1) := lwd_20 (761, .iload_n 3, 1) (List.mem_of_getElem? (i := 7) rfl)
  have d762 : decode code 762 = .ok (.iconst 2, 1) := lwd_20 (762, .iconst 2, 1) (List.mem_of_getElem? (i := 8) rfl)
  have d763 : decode code 763 = .ok (.iadd, 1) := lwd_20 (763, .iadd, 1) (List.mem_of_getElem? (i := 9) rfl)
  have d764 : decode code 764 = .ok (.iaload, 1) := lwd_20 (764, .iaload, 1) (List.mem_of_getElem? (i := 10) rfl)
  have d765 : decode code 765 = .ok (.invokevirtual 101, 3) := lwd_20 (765, .invokevirtual 101, 3) (List.mem_of_getElem? (i := 11) rfl)
  have d768 : decode code 768 = .ok (.aload_n 2, 1) := lwd_20 (768, .aload_n 2, 1) (List.mem_of_getElem? (i := 12) rfl)
  have d769 : decode code 769 = .ok (.aload_n 0, 1) := lwd_20 (769, .aload_n 0, 1) (List.mem_of_getElem? (i := 13) rfl)
  have d770 : decode code 770 = .ok (.iload_n 3, 1) := lwd_20 (770, .iload_n 3, 1) (List.mem_of_getElem? (i := 14) rfl)
  have d771 : decode code 771 = .ok (.iconst 1, 1) := lwd_20 (771, .iconst 1, 1) (List.mem_of_getElem? (i := 15) rfl)
  have d772 : decode code 772 = .ok (.iadd, 1) := lwd_20 (772, .iadd, 1) (List.mem_of_getElem? (i := 16) rfl)
  have d773 : decode code 773 = .ok (.iaload, 1) := lwd_20 (773, .iaload, 1) (List.mem_of_getElem? (i := 17) rfl)
  have d774 : decode code 774 = .ok (.aload_n 0, 1) := lwd_20 (774, .aload_n 0, 1) (List.mem_of_getElem? (i := 18) rfl)
  have d775 : decode code 775 = .ok (.iload_n 3, 1) := lwd_20 (775, .iload_n 3, 1) (List.mem_of_getElem? (i := 19) rfl)
  have d776 : decode code 776 = .ok (.iconst 2, 1) := lwd_20 (776, .iconst 2, 1) (List.mem_of_getElem? (i := 20) rfl)
  have d777 : decode code 777 = .ok (.iadd, 1) := lwd_20 (777, .iadd, 1) (List.mem_of_getElem? (i := 21) rfl)
  have d778 : decode code 778 = .ok (.iaload, 1) := lwd_20 (778, .iaload, 1) (List.mem_of_getElem? (i := 22) rfl)
  have d779 : decode code 779 = .ok (.invokevirtual 104, 3) := lwd_20 (779, .invokevirtual 104, 3) (List.mem_of_getElem? (i := 23) rfl)
  have d782 : decode code 782 = .ok (.if_icmp .eq 390, 3) := lwd_20 (782, .if_icmp .eq 390, 3) (List.mem_of_getElem? (i := 24) rfl)
  have d785 : decode code 785 = .ok (.iconst 0, 1) := lwd_20 (785, .iconst 0, 1) (List.mem_of_getElem? (i := 25) rfl)
  have d786 : decode code 786 = .ok (.ireturn, 1) := lwd_20 (786, .ireturn, 1) (List.mem_of_getElem? (i := 26) rfl)
  obtain ⟨hx, hb, hr, hml, hown, hts, hX, hbl, hlocks, hgv⟩ := id C0
  obtain ⟨hK, hI1, hI2, hZ1, hZ2, hA1, hA2, hdis⟩ := F
  obtain ⟨hP1, hP2, hS⟩ := hW
  obtain ⟨x, μ', ν', e1, e2, hR'⟩ := ok k μ ν hk hR
  refine lv_aload_n hx hb d754 rfl (lv_at hl 1 rfl) ?_
  refine l_arg (d := 1) C0 hS hl d755 d756 d757 d758 d759 rfl (by omega) hL ?_
  refine l_arg (d := 2) C0 hS hl d760 d761 d762 d763 d764 rfl (by omega) hL ?_
  refine l_callV (n := 2) (w := (D, τ, LC, a1)) (c0 := 177) (as := [.int (xs (i + 1)), .int (xs (i + 2))]) (rest := []) (M' := MX9_cell) (ci := 0) (C := RX9) (T := TX9) (N := 5) (A0 := fun _ => True) hx hb hml hown hts hl.1 d765 (tX9_cell l D τ a1 _ _ _ e1) rfl rfl q1054 q1055 q1056 q141 q1057 (by decide +kernel) (by decide) rfl (Nat.le_of_ble_eq_true rfl) hcs hP1 hK hI1 hZ1 (by rintro q ⟨c, hc, rfl⟩; exact hA1 c hc) hS (by intro v hv; simp at hv; try (rcases hv with rfl | rfl | rfl | rfl <;> rfl); try (rcases hv with rfl | rfl | rfl <;> rfl); try (rcases hv with rfl | rfl <;> rfl); try (subst hv; rfl)) (by intro q hq; cases hq; rfl) (fun H1 locs1 hQ1 hS hkeep => ?_)
  have hP2 : va_P D gcl (gW (D, τ, LM, a2) ν) H1 := hP2.kept (fun k9 q9 h9 => by
    have hlt := (hP2 k9 q9 h9).lt
    refine hkeep _ hlt ?_
    rintro ⟨c, hc, he⟩
    have h8 : k9 < 17 := by have := (List.getElem?_eq_some_iff.mp h9).1; rw [gW_len] at this; exact this
    rw [gW_get (w := (D, τ, LM, a2)) h8] at h9
    cases h9
    exact hdis c k9 hc h8 he.symm)
  refine lv_aload_n hx hb d768 rfl (lv_at hl 2 rfl) ?_
  refine l_arg (d := 1) C0 hS hl d769 d770 d771 d772 d773 rfl (by omega) hL ?_
  refine l_arg (d := 2) C0 hS hl d774 d775 d776 d777 d778 rfl (by omega) hL ?_
  refine l_callV (n := 2) (w := (D, τ, LM, a2)) (c0 := 0) (as := [.int (xs (i + 1)), .int (xs (i + 2))]) (rest := [.int x]) (M' := MX10_cell) (ci := 9) (C := RX10) (T := TX10) (N := 30) (A0 := fun _ => True) hx hb hml hown hts hl.1 d779 (tX10_cell l D τ a2 _ _ _ e2) rfl rfl q1740 q1741 q1742 q150 q1743 (by decide +kernel) (by decide) rfl (Nat.le_of_ble_eq_true rfl) hcs hP2 hK hI2 hZ2 (by rintro q ⟨c, hc, rfl⟩; exact hA2 c hc) hS (by intro v hv; simp at hv; try (rcases hv with rfl | rfl | rfl | rfl <;> rfl); try (rcases hv with rfl | rfl | rfl <;> rfl); try (rcases hv with rfl | rfl <;> rfl); try (subst hv; rfl)) (by intro q hq; cases hq; rfl) (fun H2 locs2 hQ2 hS hkeep2 => ?_)
  have hQ1 : va_P D gcl (gW (D, τ, LC, a1) μ') H2 := hQ1.kept (fun k9 q9 h9 => by
    have hlt := (hQ1 k9 q9 h9).lt
    refine hkeep2 _ hlt ?_
    rintro ⟨c, hc, he⟩
    have h8 : k9 < 182 := by have := (List.getElem?_eq_some_iff.mp h9).1; rw [gW_len] at this; exact this
    rw [gW_get (w := (D, τ, LC, a1)) h8] at h9
    cases h9
    exact hdis k9 c h8 hc he)
  refine lv_icmp_eq (tgt := 1172) hx hb d782 (by decide) (fun _ => ?_) (fun hc => absurd rfl hc)
  exact kk _ _ μ' ν' ⟨hQ1, hQ2, hS⟩ hR'
set_option maxRecDepth 20000 in
theorem lwd_21 : ∀ e ∈ ([(787, .aload_n 1, 1), (788, .aload_n 0, 1), (789, .iload_n 3, 1), (790, .iconst 1, 1), (791, .iadd, 1), (792, .iaload, 1), (793, .invokevirtual 105, 3), (796, .aload_n 2, 1), (797, .aload_n 0, 1), (798, .iload_n 3, 1), (799, .iconst 1, 1), (800, .iadd, 1), (801, .iaload, 1), (802, .invokevirtual 108, 3), (805, .if_icmp .eq 367, 3), (808, .iconst 0, 1), (809, .ireturn, 1)] : List (Nat × Instr × Nat)), decode code e.1 = .ok (e.2.1, e.2.2) := by decide +kernel
set_option maxHeartbeats 2000000 in
theorem lc_21 {D : va_G} {τ : ClassId × ClassId × ClassId × ClassId} {a1 a2 : Nat → Nat} {Rl : Nat → gMem → gMem → Prop} {i k : Nat} (C0 : lw_At p s m meth c b L xs) (hL : L ≤ 2560) (F : LF D τ a1 a2 s) (hl : lv_has ls 4 [(0, .ref b), (1, .ref (a1 177)), (2, .ref (a2 0)), (3, .int (nI i))]) (hi : i + 4 < L) (hk : k < 512) (hcs : cells ≤ 600000 ∧ slots ≤ 7302250) (ok : oK Rl mX9_load mX10_load [.int (xs (i + 1))])
    (kk : ∀ (H : Heap) (locs : List Loc) (μ ν : gMem), LW D τ a1 a2 s μ ν H locs → Rl (k + 1) μ ν → W p l e room_1 s m #[Value.ref b] below meth c H locs cells slots Q (F0 m 1172 ls [])) (H : Heap) (locs : List Loc) (μ ν : gMem) (hW : LW D τ a1 a2 s μ ν H locs) (hR : Rl k μ ν) : W p l e room_1 s m #[Value.ref b] below meth c H locs cells slots Q (F0 m 787 ls []) := by
  have d787 : decode code 787 = .ok (.aload_n 1, 1) := lwd_21 (787, .aload_n 1, 1) (List.mem_of_getElem? (i := 0) rfl)
  have d788 : decode code 788 = .ok (.aload_n 0, 1) := lwd_21 (788, .aload_n 0, 1) (List.mem_of_getElem? (i := 1) rfl)
  have d789 : decode code 789 = .ok (.iload_n 3, 1) := lwd_21 (789, .iload_n 3, 1) (List.mem_of_getElem? (i := 2) rfl)
  have d790 : decode code 790 = .ok (.iconst 1, 1) := lwd_21 (790, .iconst 1, 1) (List.mem_of_getElem? (i := 3) rfl)
  have d791 : decode code 791 = .ok (.iadd, 1) := lwd_21 (791, .iadd, 1) (List.mem_of_getElem? (i := 4) rfl)
  have d792 : decode code 792 = .ok (.iaload, 1) := lwd_21 (792, .iaload, 1) (List.mem_of_getElem? (i := 5) rfl)
  have d793 : decode code 793 = .ok (.invokevirtual 105, 3) := lwd_21 (793, .invokevirtual 105, 3) (List.mem_of_getElem? (i := 6) rfl)
  have d796 : decode code 796 = .ok (.aload_n 2, 1) := lwd_21 (796, .aload_n 2, 1) (List.mem_of_getElem? (i := 7) rfl)
  have d797 : decode code 797 = .ok (.aload_n 0, 1) := lwd_21 (797, .aload_n 0, 1) (List.mem_of_getElem? (i := 8) rfl)
  have d798 : decode code 798 = .ok (.iload_n 3, 1) := lwd_21 (798, .iload_n 3, 1) (List.mem_of_getElem? (i := 9) rfl)
  have d799 : decode code 799 = .ok (.iconst 1, 1) := lwd_21 (799, .iconst 1, 1) (List.mem_of_getElem? (i := 10) rfl)
  have d800 : decode code 800 = .ok (.iadd, 1) := lwd_21 (800, .iadd, 1) (List.mem_of_getElem? (i := 11) rfl)
  have d801 : decode code 801 = .ok (.iaload, 1) := lwd_21 (801, .iaload, 1) (List.mem_of_getElem? (i := 12) rfl)
  have d802 : decode code 802 = .ok (.invokevirtual 108, 3) := lwd_21 (802, .invokevirtual 108, 3) (List.mem_of_getElem? (i := 13) rfl)
  have d805 : decode code 805 = .ok (.if_icmp .eq 367, 3) := lwd_21 (805, .if_icmp .eq 367, 3) (List.mem_of_getElem? (i := 14) rfl)
  have d808 : decode code 808 = .ok (.iconst 0, 1) := lwd_21 (808, .iconst 0, 1) (List.mem_of_getElem? (i := 15) rfl)
  have d809 : decode code 809 = .ok (.ireturn, 1) := lwd_21 (809, .ireturn, 1) (List.mem_of_getElem? (i := 16) rfl)
  obtain ⟨hx, hb, hr, hml, hown, hts, hX, hbl, hlocks, hgv⟩ := id C0
  obtain ⟨hK, hI1, hI2, hZ1, hZ2, hA1, hA2, hdis⟩ := F
  obtain ⟨hP1, hP2, hS⟩ := hW
  obtain ⟨x, μ', ν', e1, e2, hR'⟩ := ok k μ ν hk hR
  refine lv_aload_n hx hb d787 rfl (lv_at hl 1 rfl) ?_
  refine l_arg (d := 1) C0 hS hl d788 d789 d790 d791 d792 rfl (by omega) hL ?_
  refine l_callV (n := 1) (w := (D, τ, LC, a1)) (c0 := 177) (as := [.int (xs (i + 1))]) (rest := []) (M' := MX9_load) (ci := 0) (C := RX9) (T := TX9) (N := 5) (A0 := fun _ => True) hx hb hml hown hts hl.1 d793 (tX9_load l D τ a1 _ _ _ e1) rfl rfl q1063 q1064 q1065 q141 q1066 (by decide +kernel) (by decide) rfl (Nat.le_of_ble_eq_true rfl) hcs hP1 hK hI1 hZ1 (by rintro q ⟨c, hc, rfl⟩; exact hA1 c hc) hS (by intro v hv; simp at hv; try (rcases hv with rfl | rfl | rfl | rfl <;> rfl); try (rcases hv with rfl | rfl | rfl <;> rfl); try (rcases hv with rfl | rfl <;> rfl); try (subst hv; rfl)) (by intro q hq; cases hq; rfl) (fun H1 locs1 hQ1 hS hkeep => ?_)
  have hP2 : va_P D gcl (gW (D, τ, LM, a2) ν) H1 := hP2.kept (fun k9 q9 h9 => by
    have hlt := (hP2 k9 q9 h9).lt
    refine hkeep _ hlt ?_
    rintro ⟨c, hc, he⟩
    have h8 : k9 < 17 := by have := (List.getElem?_eq_some_iff.mp h9).1; rw [gW_len] at this; exact this
    rw [gW_get (w := (D, τ, LM, a2)) h8] at h9
    cases h9
    exact hdis c k9 hc h8 he.symm)
  refine lv_aload_n hx hb d796 rfl (lv_at hl 2 rfl) ?_
  refine l_arg (d := 1) C0 hS hl d797 d798 d799 d800 d801 rfl (by omega) hL ?_
  refine l_callV (n := 1) (w := (D, τ, LM, a2)) (c0 := 0) (as := [.int (xs (i + 1))]) (rest := [.int x]) (M' := MX10_load) (ci := 9) (C := RX10) (T := TX10) (N := 30) (A0 := fun _ => True) hx hb hml hown hts hl.1 d802 (tX10_load l D τ a2 _ _ _ e2) rfl rfl q1744 q1745 q1746 q150 q1747 (by decide +kernel) (by decide) rfl (Nat.le_of_ble_eq_true rfl) hcs hP2 hK hI2 hZ2 (by rintro q ⟨c, hc, rfl⟩; exact hA2 c hc) hS (by intro v hv; simp at hv; try (rcases hv with rfl | rfl | rfl | rfl <;> rfl); try (rcases hv with rfl | rfl | rfl <;> rfl); try (rcases hv with rfl | rfl <;> rfl); try (subst hv; rfl)) (by intro q hq; cases hq; rfl) (fun H2 locs2 hQ2 hS hkeep2 => ?_)
  have hQ1 : va_P D gcl (gW (D, τ, LC, a1) μ') H2 := hQ1.kept (fun k9 q9 h9 => by
    have hlt := (hQ1 k9 q9 h9).lt
    refine hkeep2 _ hlt ?_
    rintro ⟨c, hc, he⟩
    have h8 : k9 < 182 := by have := (List.getElem?_eq_some_iff.mp h9).1; rw [gW_len] at this; exact this
    rw [gW_get (w := (D, τ, LC, a1)) h8] at h9
    cases h9
    exact hdis k9 c h8 hc he)
  refine lv_icmp_eq (tgt := 1172) hx hb d805 (by decide) (fun _ => ?_) (fun hc => absurd rfl hc)
  exact kk _ _ μ' ν' ⟨hQ1, hQ2, hS⟩ hR'
set_option maxRecDepth 20000 in
theorem lwd_22 : ∀ e ∈ ([(810, .aload_n 1, 1), (811, .aload_n 0, 1), (812, .iload_n 3, 1), (813, .iconst 1, 1), (814, .iadd, 1), (815, .iaload, 1), (816, .aload_n 0, 1), (817, .iload_n 3, 1), (818, .iconst 2, 1), (819, .iadd, 1), (820, .iaload, 1), (821, .invokevirtual 109, 3), (824, .aload_n 2, 1), (825, .aload_n 0, 1), (826, .iload_n 3, 1), (827, .iconst 1, 1), (828, .iadd, 1), (829, .iaload, 1), (830, .aload_n 0, 1), (831, .iload_n 3, 1), (832, .iconst 2, 1), (833, .iadd, 1), (834, .iaload, 1), (835, .invokevirtual 112, 3), (838, .if_icmp .eq 334, 3), (841, .iconst 0, 1), (842, .ireturn, 1)] : List (Nat × Instr × Nat)), decode code e.1 = .ok (e.2.1, e.2.2) := by decide +kernel
set_option maxHeartbeats 2000000 in
theorem lc_22 {D : va_G} {τ : ClassId × ClassId × ClassId × ClassId} {a1 a2 : Nat → Nat} {Rl : Nat → gMem → gMem → Prop} {i k : Nat} (C0 : lw_At p s m meth c b L xs) (hL : L ≤ 2560) (F : LF D τ a1 a2 s) (hl : lv_has ls 4 [(0, .ref b), (1, .ref (a1 177)), (2, .ref (a2 0)), (3, .int (nI i))]) (hi : i + 4 < L) (hk : k < 512) (hcs : cells ≤ 600000 ∧ slots ≤ 7302250) (ok : oK Rl mX9_of mX10_of [.int (xs (i + 1)), .int (xs (i + 2))])
    (kk : ∀ (H : Heap) (locs : List Loc) (μ ν : gMem), LW D τ a1 a2 s μ ν H locs → Rl (k + 1) μ ν → W p l e room_1 s m #[Value.ref b] below meth c H locs cells slots Q (F0 m 1172 ls [])) (H : Heap) (locs : List Loc) (μ ν : gMem) (hW : LW D τ a1 a2 s μ ν H locs) (hR : Rl k μ ν) : W p l e room_1 s m #[Value.ref b] below meth c H locs cells slots Q (F0 m 810 ls []) := by
  have d810 : decode code 810 = .ok (.aload_n 1, 1) := lwd_22 (810, .aload_n 1, 1) (List.mem_of_getElem? (i := 0) rfl)
  have d811 : decode code 811 = .ok (.aload_n 0, 1) := lwd_22 (811, .aload_n 0, 1) (List.mem_of_getElem? (i := 1) rfl)
  have d812 : decode code 812 = .ok (.iload_n 3, 1) := lwd_22 (812, .iload_n 3, 1) (List.mem_of_getElem? (i := 2) rfl)
  have d813 : decode code 813 = .ok (.iconst 1, 1) := lwd_22 (813, .iconst 1, 1) (List.mem_of_getElem? (i := 3) rfl)
  have d814 : decode code 814 = .ok (.iadd, 1) := lwd_22 (814, .iadd, 1) (List.mem_of_getElem? (i := 4) rfl)
  have d815 : decode code 815 = .ok (.iaload, 1) := lwd_22 (815, .iaload, 1) (List.mem_of_getElem? (i := 5) rfl)
  have d816 : decode code 816 = .ok (.aload_n 0, 1) := lwd_22 (816, .aload_n 0, 1) (List.mem_of_getElem? (i := 6) rfl)
  have d817 : decode code 817 = .ok (.iload_n 3, 1) := lwd_22 (817, .iload_n 3, 1) (List.mem_of_getElem? (i := 7) rfl)
  have d818 : decode code 818 = .ok (.iconst 2, 1) := lwd_22 (818, .iconst 2, 1) (List.mem_of_getElem? (i := 8) rfl)
  have d819 : decode code 819 = .ok (.iadd, 1) := lwd_22 (819, .iadd, 1) (List.mem_of_getElem? (i := 9) rfl)
  have d820 : decode code 820 = .ok (.iaload, 1) := lwd_22 (820, .iaload, 1) (List.mem_of_getElem? (i := 10) rfl)
  have d821 : decode code 821 = .ok (.invokevirtual 109, 3) := lwd_22 (821, .invokevirtual 109, 3) (List.mem_of_getElem? (i := 11) rfl)
  have d824 : decode code 824 = .ok (.aload_n 2, 1) := lwd_22 (824, .aload_n 2, 1) (List.mem_of_getElem? (i := 12) rfl)
  have d825 : decode code 825 = .ok (.aload_n 0, 1) := lwd_22 (825, .aload_n 0, 1) (List.mem_of_getElem? (i := 13) rfl)
  have d826 : decode code 826 = .ok (.iload_n 3, 1) := lwd_22 (826, .iload_n 3, 1) (List.mem_of_getElem? (i := 14) rfl)
  have d827 : decode code 827 = .ok (.iconst 1, 1) := lwd_22 (827, .iconst 1, 1) (List.mem_of_getElem? (i := 15) rfl)
  have d828 : decode code 828 = .ok (.iadd, 1) := lwd_22 (828, .iadd, 1) (List.mem_of_getElem? (i := 16) rfl)
  have d829 : decode code 829 = .ok (.iaload, 1) := lwd_22 (829, .iaload, 1) (List.mem_of_getElem? (i := 17) rfl)
  have d830 : decode code 830 = .ok (.aload_n 0, 1) := lwd_22 (830, .aload_n 0, 1) (List.mem_of_getElem? (i := 18) rfl)
  have d831 : decode code 831 = .ok (.iload_n 3, 1) := lwd_22 (831, .iload_n 3, 1) (List.mem_of_getElem? (i := 19) rfl)
  have d832 : decode code 832 = .ok (.iconst 2, 1) := lwd_22 (832, .iconst 2, 1) (List.mem_of_getElem? (i := 20) rfl)
  have d833 : decode code 833 = .ok (.iadd, 1) := lwd_22 (833, .iadd, 1) (List.mem_of_getElem? (i := 21) rfl)
  have d834 : decode code 834 = .ok (.iaload, 1) := lwd_22 (834, .iaload, 1) (List.mem_of_getElem? (i := 22) rfl)
  have d835 : decode code 835 = .ok (.invokevirtual 112, 3) := lwd_22 (835, .invokevirtual 112, 3) (List.mem_of_getElem? (i := 23) rfl)
  have d838 : decode code 838 = .ok (.if_icmp .eq 334, 3) := lwd_22 (838, .if_icmp .eq 334, 3) (List.mem_of_getElem? (i := 24) rfl)
  have d841 : decode code 841 = .ok (.iconst 0, 1) := lwd_22 (841, .iconst 0, 1) (List.mem_of_getElem? (i := 25) rfl)
  have d842 : decode code 842 = .ok (.ireturn, 1) := lwd_22 (842, .ireturn, 1) (List.mem_of_getElem? (i := 26) rfl)
  obtain ⟨hx, hb, hr, hml, hown, hts, hX, hbl, hlocks, hgv⟩ := id C0
  obtain ⟨hK, hI1, hI2, hZ1, hZ2, hA1, hA2, hdis⟩ := F
  obtain ⟨hP1, hP2, hS⟩ := hW
  obtain ⟨x, μ', ν', e1, e2, hR'⟩ := ok k μ ν hk hR
  refine lv_aload_n hx hb d810 rfl (lv_at hl 1 rfl) ?_
  refine l_arg (d := 1) C0 hS hl d811 d812 d813 d814 d815 rfl (by omega) hL ?_
  refine l_arg (d := 2) C0 hS hl d816 d817 d818 d819 d820 rfl (by omega) hL ?_
  refine l_callV (n := 2) (w := (D, τ, LC, a1)) (c0 := 177) (as := [.int (xs (i + 1)), .int (xs (i + 2))]) (rest := []) (M' := MX9_of) (ci := 0) (C := RX9) (T := TX9) (N := 5) (A0 := fun _ => True) hx hb hml hown hts hl.1 d821 (tX9_of l D τ a1 _ _ _ e1) rfl rfl q1068 q1069 q1070 q141 q1071 (by decide +kernel) (by decide) rfl (Nat.le_of_ble_eq_true rfl) hcs hP1 hK hI1 hZ1 (by rintro q ⟨c, hc, rfl⟩; exact hA1 c hc) hS (by intro v hv; simp at hv; try (rcases hv with rfl | rfl | rfl | rfl <;> rfl); try (rcases hv with rfl | rfl | rfl <;> rfl); try (rcases hv with rfl | rfl <;> rfl); try (subst hv; rfl)) (by intro q hq; cases hq; rfl) (fun H1 locs1 hQ1 hS hkeep => ?_)
  have hP2 : va_P D gcl (gW (D, τ, LM, a2) ν) H1 := hP2.kept (fun k9 q9 h9 => by
    have hlt := (hP2 k9 q9 h9).lt
    refine hkeep _ hlt ?_
    rintro ⟨c, hc, he⟩
    have h8 : k9 < 17 := by have := (List.getElem?_eq_some_iff.mp h9).1; rw [gW_len] at this; exact this
    rw [gW_get (w := (D, τ, LM, a2)) h8] at h9
    cases h9
    exact hdis c k9 hc h8 he.symm)
  refine lv_aload_n hx hb d824 rfl (lv_at hl 2 rfl) ?_
  refine l_arg (d := 1) C0 hS hl d825 d826 d827 d828 d829 rfl (by omega) hL ?_
  refine l_arg (d := 2) C0 hS hl d830 d831 d832 d833 d834 rfl (by omega) hL ?_
  refine l_callV (n := 2) (w := (D, τ, LM, a2)) (c0 := 0) (as := [.int (xs (i + 1)), .int (xs (i + 2))]) (rest := [.int x]) (M' := MX10_of) (ci := 9) (C := RX10) (T := TX10) (N := 30) (A0 := fun _ => True) hx hb hml hown hts hl.1 d835 (tX10_of l D τ a2 _ _ _ e2) rfl rfl q1748 q1749 q1750 q150 q1751 (by decide +kernel) (by decide) rfl (Nat.le_of_ble_eq_true rfl) hcs hP2 hK hI2 hZ2 (by rintro q ⟨c, hc, rfl⟩; exact hA2 c hc) hS (by intro v hv; simp at hv; try (rcases hv with rfl | rfl | rfl | rfl <;> rfl); try (rcases hv with rfl | rfl | rfl <;> rfl); try (rcases hv with rfl | rfl <;> rfl); try (subst hv; rfl)) (by intro q hq; cases hq; rfl) (fun H2 locs2 hQ2 hS hkeep2 => ?_)
  have hQ1 : va_P D gcl (gW (D, τ, LC, a1) μ') H2 := hQ1.kept (fun k9 q9 h9 => by
    have hlt := (hQ1 k9 q9 h9).lt
    refine hkeep2 _ hlt ?_
    rintro ⟨c, hc, he⟩
    have h8 : k9 < 182 := by have := (List.getElem?_eq_some_iff.mp h9).1; rw [gW_len] at this; exact this
    rw [gW_get (w := (D, τ, LC, a1)) h8] at h9
    cases h9
    exact hdis k9 c h8 hc he)
  refine lv_icmp_eq (tgt := 1172) hx hb d838 (by decide) (fun _ => ?_) (fun hc => absurd rfl hc)
  exact kk _ _ μ' ν' ⟨hQ1, hQ2, hS⟩ hR'
set_option maxRecDepth 20000 in
theorem lwd_23 : ∀ e ∈ ([(843, .aload_n 1, 1), (844, .aload_n 0, 1), (845, .iload_n 3, 1), (846, .iconst 1, 1), (847, .iadd, 1), (848, .iaload, 1), (849, .aload_n 0, 1), (850, .iload_n 3, 1), (851, .iconst 2, 1), (852, .iadd, 1), (853, .iaload, 1), (854, .invokevirtual 113, 3), (857, .aload_n 2, 1), (858, .aload_n 0, 1), (859, .iload_n 3, 1), (860, .iconst 1, 1), (861, .iadd, 1), (862, .iaload, 1), (863, .aload_n 0, 1), (864, .iload_n 3, 1), (865, .iconst 2, 1), (866, .iadd, 1), (867, .iaload, 1), (868, .invokevirtual 116, 3), (871, .if_icmp .eq 301, 3), (874, .iconst 0, 1), (875, .ireturn, 1)] : List (Nat × Instr × Nat)), decode code e.1 = .ok (e.2.1, e.2.2) := by decide +kernel
set_option maxHeartbeats 2000000 in
theorem lc_23 {D : va_G} {τ : ClassId × ClassId × ClassId × ClassId} {a1 a2 : Nat → Nat} {Rl : Nat → gMem → gMem → Prop} {i k : Nat} (C0 : lw_At p s m meth c b L xs) (hL : L ≤ 2560) (F : LF D τ a1 a2 s) (hl : lv_has ls 4 [(0, .ref b), (1, .ref (a1 177)), (2, .ref (a2 0)), (3, .int (nI i))]) (hi : i + 4 < L) (hk : k < 512) (hcs : cells ≤ 600000 ∧ slots ≤ 7302250) (ok : oK Rl mX9_user mX10_user [.int (xs (i + 1)), .int (xs (i + 2))])
    (kk : ∀ (H : Heap) (locs : List Loc) (μ ν : gMem), LW D τ a1 a2 s μ ν H locs → Rl (k + 1) μ ν → W p l e room_1 s m #[Value.ref b] below meth c H locs cells slots Q (F0 m 1172 ls [])) (H : Heap) (locs : List Loc) (μ ν : gMem) (hW : LW D τ a1 a2 s μ ν H locs) (hR : Rl k μ ν) : W p l e room_1 s m #[Value.ref b] below meth c H locs cells slots Q (F0 m 843 ls []) := by
  have d843 : decode code 843 = .ok (.aload_n 1, 1) := lwd_23 (843, .aload_n 1, 1) (List.mem_of_getElem? (i := 0) rfl)
  have d844 : decode code 844 = .ok (.aload_n 0, 1) := lwd_23 (844, .aload_n 0, 1) (List.mem_of_getElem? (i := 1) rfl)
  have d845 : decode code 845 = .ok (.iload_n 3, 1) := lwd_23 (845, .iload_n 3, 1) (List.mem_of_getElem? (i := 2) rfl)
  have d846 : decode code 846 = .ok (.iconst 1, 1) := lwd_23 (846, .iconst 1, 1) (List.mem_of_getElem? (i := 3) rfl)
  have d847 : decode code 847 = .ok (.iadd, 1) := lwd_23 (847, .iadd, 1) (List.mem_of_getElem? (i := 4) rfl)
  have d848 : decode code 848 = .ok (.iaload, 1) := lwd_23 (848, .iaload, 1) (List.mem_of_getElem? (i := 5) rfl)
  have d849 : decode code 849 = .ok (.aload_n 0, 1) := lwd_23 (849, .aload_n 0, 1) (List.mem_of_getElem? (i := 6) rfl)
  have d850 : decode code 850 = .ok (.iload_n 3, 1) := lwd_23 (850, .iload_n 3, 1) (List.mem_of_getElem? (i := 7) rfl)
  have d851 : decode code 851 = .ok (.iconst 2, 1) := lwd_23 (851, .iconst 2, 1) (List.mem_of_getElem? (i := 8) rfl)
  have d852 : decode code 852 = .ok (.iadd, 1) := lwd_23 (852, .iadd, 1) (List.mem_of_getElem? (i := 9) rfl)
  have d853 : decode code 853 = .ok (.iaload, 1) := lwd_23 (853, .iaload, 1) (List.mem_of_getElem? (i := 10) rfl)
  have d854 : decode code 854 = .ok (.invokevirtual 113, 3) := lwd_23 (854, .invokevirtual 113, 3) (List.mem_of_getElem? (i := 11) rfl)
  have d857 : decode code 857 = .ok (.aload_n 2, 1) := lwd_23 (857, .aload_n 2, 1) (List.mem_of_getElem? (i := 12) rfl)
  have d858 : decode code 858 = .ok (.aload_n 0, 1) := lwd_23 (858, .aload_n 0, 1) (List.mem_of_getElem? (i := 13) rfl)
  have d859 : decode code 859 = .ok (.iload_n 3, 1) := lwd_23 (859, .iload_n 3, 1) (List.mem_of_getElem? (i := 14) rfl)
  have d860 : decode code 860 = .ok (.iconst 1, 1) := lwd_23 (860, .iconst 1, 1) (List.mem_of_getElem? (i := 15) rfl)
  have d861 : decode code 861 = .ok (.iadd, 1) := lwd_23 (861, .iadd, 1) (List.mem_of_getElem? (i := 16) rfl)
  have d862 : decode code 862 = .ok (.iaload, 1) := lwd_23 (862, .iaload, 1) (List.mem_of_getElem? (i := 17) rfl)
  have d863 : decode code 863 = .ok (.aload_n 0, 1) := lwd_23 (863, .aload_n 0, 1) (List.mem_of_getElem? (i := 18) rfl)
  have d864 : decode code 864 = .ok (.iload_n 3, 1) := lwd_23 (864, .iload_n 3, 1) (List.mem_of_getElem? (i := 19) rfl)
  have d865 : decode code 865 = .ok (.iconst 2, 1) := lwd_23 (865, .iconst 2, 1) (List.mem_of_getElem? (i := 20) rfl)
  have d866 : decode code 866 = .ok (.iadd, 1) := lwd_23 (866, .iadd, 1) (List.mem_of_getElem? (i := 21) rfl)
  have d867 : decode code 867 = .ok (.iaload, 1) := lwd_23 (867, .iaload, 1) (List.mem_of_getElem? (i := 22) rfl)
  have d868 : decode code 868 = .ok (.invokevirtual 116, 3) := lwd_23 (868, .invokevirtual 116, 3) (List.mem_of_getElem? (i := 23) rfl)
  have d871 : decode code 871 = .ok (.if_icmp .eq 301, 3) := lwd_23 (871, .if_icmp .eq 301, 3) (List.mem_of_getElem? (i := 24) rfl)
  have d874 : decode code 874 = .ok (.iconst 0, 1) := lwd_23 (874, .iconst 0, 1) (List.mem_of_getElem? (i := 25) rfl)
  have d875 : decode code 875 = .ok (.ireturn, 1) := lwd_23 (875, .ireturn, 1) (List.mem_of_getElem? (i := 26) rfl)
  obtain ⟨hx, hb, hr, hml, hown, hts, hX, hbl, hlocks, hgv⟩ := id C0
  obtain ⟨hK, hI1, hI2, hZ1, hZ2, hA1, hA2, hdis⟩ := F
  obtain ⟨hP1, hP2, hS⟩ := hW
  obtain ⟨x, μ', ν', e1, e2, hR'⟩ := ok k μ ν hk hR
  refine lv_aload_n hx hb d843 rfl (lv_at hl 1 rfl) ?_
  refine l_arg (d := 1) C0 hS hl d844 d845 d846 d847 d848 rfl (by omega) hL ?_
  refine l_arg (d := 2) C0 hS hl d849 d850 d851 d852 d853 rfl (by omega) hL ?_
  refine l_callV (n := 2) (w := (D, τ, LC, a1)) (c0 := 177) (as := [.int (xs (i + 1)), .int (xs (i + 2))]) (rest := []) (M' := MX9_user) (ci := 0) (C := RX9) (T := TX9) (N := 5) (A0 := fun _ => True) hx hb hml hown hts hl.1 d854 (tX9_user l D τ a1 _ _ _ e1) rfl rfl q1072 q1073 q1074 q141 q1075 (by decide +kernel) (by decide) rfl (Nat.le_of_ble_eq_true rfl) hcs hP1 hK hI1 hZ1 (by rintro q ⟨c, hc, rfl⟩; exact hA1 c hc) hS (by intro v hv; simp at hv; try (rcases hv with rfl | rfl | rfl | rfl <;> rfl); try (rcases hv with rfl | rfl | rfl <;> rfl); try (rcases hv with rfl | rfl <;> rfl); try (subst hv; rfl)) (by intro q hq; cases hq; rfl) (fun H1 locs1 hQ1 hS hkeep => ?_)
  have hP2 : va_P D gcl (gW (D, τ, LM, a2) ν) H1 := hP2.kept (fun k9 q9 h9 => by
    have hlt := (hP2 k9 q9 h9).lt
    refine hkeep _ hlt ?_
    rintro ⟨c, hc, he⟩
    have h8 : k9 < 17 := by have := (List.getElem?_eq_some_iff.mp h9).1; rw [gW_len] at this; exact this
    rw [gW_get (w := (D, τ, LM, a2)) h8] at h9
    cases h9
    exact hdis c k9 hc h8 he.symm)
  refine lv_aload_n hx hb d857 rfl (lv_at hl 2 rfl) ?_
  refine l_arg (d := 1) C0 hS hl d858 d859 d860 d861 d862 rfl (by omega) hL ?_
  refine l_arg (d := 2) C0 hS hl d863 d864 d865 d866 d867 rfl (by omega) hL ?_
  refine l_callV (n := 2) (w := (D, τ, LM, a2)) (c0 := 0) (as := [.int (xs (i + 1)), .int (xs (i + 2))]) (rest := [.int x]) (M' := MX10_user) (ci := 9) (C := RX10) (T := TX10) (N := 30) (A0 := fun _ => True) hx hb hml hown hts hl.1 d868 (tX10_user l D τ a2 _ _ _ e2) rfl rfl q1752 q1753 q1754 q150 q1755 (by decide +kernel) (by decide) rfl (Nat.le_of_ble_eq_true rfl) hcs hP2 hK hI2 hZ2 (by rintro q ⟨c, hc, rfl⟩; exact hA2 c hc) hS (by intro v hv; simp at hv; try (rcases hv with rfl | rfl | rfl | rfl <;> rfl); try (rcases hv with rfl | rfl | rfl <;> rfl); try (rcases hv with rfl | rfl <;> rfl); try (subst hv; rfl)) (by intro q hq; cases hq; rfl) (fun H2 locs2 hQ2 hS hkeep2 => ?_)
  have hQ1 : va_P D gcl (gW (D, τ, LC, a1) μ') H2 := hQ1.kept (fun k9 q9 h9 => by
    have hlt := (hQ1 k9 q9 h9).lt
    refine hkeep2 _ hlt ?_
    rintro ⟨c, hc, he⟩
    have h8 : k9 < 182 := by have := (List.getElem?_eq_some_iff.mp h9).1; rw [gW_len] at this; exact this
    rw [gW_get (w := (D, τ, LC, a1)) h8] at h9
    cases h9
    exact hdis k9 c h8 hc he)
  refine lv_icmp_eq (tgt := 1172) hx hb d871 (by decide) (fun _ => ?_) (fun hc => absurd rfl hc)
  exact kk _ _ μ' ν' ⟨hQ1, hQ2, hS⟩ hR'
set_option maxRecDepth 20000 in
theorem lwd_24 : ∀ e ∈ ([(876, .aload_n 1, 1), (877, .aload_n 0, 1), (878, .iload_n 3, 1), (879, .iconst 1, 1), (880, .iadd, 1), (881, .iaload, 1), (882, .aload_n 0, 1), (883, .iload_n 3, 1), (884, .iconst 2, 1), (885, .iadd, 1), (886, .iaload, 1), (887, .invokevirtual 117, 3), (890, .aload_n 2, 1), (891, .aload_n 0, 1), (892, .iload_n 3, 1), (893, .iconst 1, 1), (894, .iadd, 1), (895, .iaload, 1), (896, .aload_n 0, 1), (897, .iload_n 3, 1), (898, .iconst 2, 1), (899, .iadd, 1), (900, .iaload, 1), (901, .invokevirtual 120, 3), (904, .if_icmp .eq 268, 3), (907, .iconst 0, 1), (908, .ireturn, 1)] : List (Nat × Instr × Nat)), decode code e.1 = .ok (e.2.1, e.2.2) := by decide +kernel
set_option maxHeartbeats 2000000 in
theorem lc_24 {D : va_G} {τ : ClassId × ClassId × ClassId × ClassId} {a1 a2 : Nat → Nat} {Rl : Nat → gMem → gMem → Prop} {i k : Nat} (C0 : lw_At p s m meth c b L xs) (hL : L ≤ 2560) (F : LF D τ a1 a2 s) (hl : lv_has ls 4 [(0, .ref b), (1, .ref (a1 177)), (2, .ref (a2 0)), (3, .int (nI i))]) (hi : i + 4 < L) (hk : k < 512) (hcs : cells ≤ 600000 ∧ slots ≤ 7302250) (ok : oK Rl mX9_slot mX10_slot [.int (xs (i + 1)), .int (xs (i + 2))])
    (kk : ∀ (H : Heap) (locs : List Loc) (μ ν : gMem), LW D τ a1 a2 s μ ν H locs → Rl (k + 1) μ ν → W p l e room_1 s m #[Value.ref b] below meth c H locs cells slots Q (F0 m 1172 ls [])) (H : Heap) (locs : List Loc) (μ ν : gMem) (hW : LW D τ a1 a2 s μ ν H locs) (hR : Rl k μ ν) : W p l e room_1 s m #[Value.ref b] below meth c H locs cells slots Q (F0 m 876 ls []) := by
  have d876 : decode code 876 = .ok (.aload_n 1, 1) := lwd_24 (876, .aload_n 1, 1) (List.mem_of_getElem? (i := 0) rfl)
  have d877 : decode code 877 = .ok (.aload_n 0, 1) := lwd_24 (877, .aload_n 0, 1) (List.mem_of_getElem? (i := 1) rfl)
  have d878 : decode code 878 = .ok (.iload_n 3, 1) := lwd_24 (878, .iload_n 3, 1) (List.mem_of_getElem? (i := 2) rfl)
  have d879 : decode code 879 = .ok (.iconst 1, 1) := lwd_24 (879, .iconst 1, 1) (List.mem_of_getElem? (i := 3) rfl)
  have d880 : decode code 880 = .ok (.iadd, 1) := lwd_24 (880, .iadd, 1) (List.mem_of_getElem? (i := 4) rfl)
  have d881 : decode code 881 = .ok (.iaload, 1) := lwd_24 (881, .iaload, 1) (List.mem_of_getElem? (i := 5) rfl)
  have d882 : decode code 882 = .ok (.aload_n 0, 1) := lwd_24 (882, .aload_n 0, 1) (List.mem_of_getElem? (i := 6) rfl)
  have d883 : decode code 883 = .ok (.iload_n 3, 1) := lwd_24 (883, .iload_n 3, 1) (List.mem_of_getElem? (i := 7) rfl)
  have d884 : decode code 884 = .ok (.iconst 2, 1) := lwd_24 (884, .iconst 2, 1) (List.mem_of_getElem? (i := 8) rfl)
  have d885 : decode code 885 = .ok (.iadd, 1) := lwd_24 (885, .iadd, 1) (List.mem_of_getElem? (i := 9) rfl)
  have d886 : decode code 886 = .ok (.iaload, 1) := lwd_24 (886, .iaload, 1) (List.mem_of_getElem? (i := 10) rfl)
  have d887 : decode code 887 = .ok (.invokevirtual 117, 3) := lwd_24 (887, .invokevirtual 117, 3) (List.mem_of_getElem? (i := 11) rfl)
  have d890 : decode code 890 = .ok (.aload_n 2, 1) := lwd_24 (890, .aload_n 2, 1) (List.mem_of_getElem? (i := 12) rfl)
  have d891 : decode code 891 = .ok (.aload_n 0, 1) := lwd_24 (891, .aload_n 0, 1) (List.mem_of_getElem? (i := 13) rfl)
  have d892 : decode code 892 = .ok (.iload_n 3, 1) := lwd_24 (892, .iload_n 3, 1) (List.mem_of_getElem? (i := 14) rfl)
  have d893 : decode code 893 = .ok (.iconst 1, 1) := lwd_24 (893, .iconst 1, 1) (List.mem_of_getElem? (i := 15) rfl)
  have d894 : decode code 894 = .ok (.iadd, 1) := lwd_24 (894, .iadd, 1) (List.mem_of_getElem? (i := 16) rfl)
  have d895 : decode code 895 = .ok (.iaload, 1) := lwd_24 (895, .iaload, 1) (List.mem_of_getElem? (i := 17) rfl)
  have d896 : decode code 896 = .ok (.aload_n 0, 1) := lwd_24 (896, .aload_n 0, 1) (List.mem_of_getElem? (i := 18) rfl)
  have d897 : decode code 897 = .ok (.iload_n 3, 1) := lwd_24 (897, .iload_n 3, 1) (List.mem_of_getElem? (i := 19) rfl)
  have d898 : decode code 898 = .ok (.iconst 2, 1) := lwd_24 (898, .iconst 2, 1) (List.mem_of_getElem? (i := 20) rfl)
  have d899 : decode code 899 = .ok (.iadd, 1) := lwd_24 (899, .iadd, 1) (List.mem_of_getElem? (i := 21) rfl)
  have d900 : decode code 900 = .ok (.iaload, 1) := lwd_24 (900, .iaload, 1) (List.mem_of_getElem? (i := 22) rfl)
  have d901 : decode code 901 = .ok (.invokevirtual 120, 3) := lwd_24 (901, .invokevirtual 120, 3) (List.mem_of_getElem? (i := 23) rfl)
  have d904 : decode code 904 = .ok (.if_icmp .eq 268, 3) := lwd_24 (904, .if_icmp .eq 268, 3) (List.mem_of_getElem? (i := 24) rfl)
  have d907 : decode code 907 = .ok (.iconst 0, 1) := lwd_24 (907, .iconst 0, 1) (List.mem_of_getElem? (i := 25) rfl)
  have d908 : decode code 908 = .ok (.ireturn, 1) := lwd_24 (908, .ireturn, 1) (List.mem_of_getElem? (i := 26) rfl)
  obtain ⟨hx, hb, hr, hml, hown, hts, hX, hbl, hlocks, hgv⟩ := id C0
  obtain ⟨hK, hI1, hI2, hZ1, hZ2, hA1, hA2, hdis⟩ := F
  obtain ⟨hP1, hP2, hS⟩ := hW
  obtain ⟨x, μ', ν', e1, e2, hR'⟩ := ok k μ ν hk hR
  refine lv_aload_n hx hb d876 rfl (lv_at hl 1 rfl) ?_
  refine l_arg (d := 1) C0 hS hl d877 d878 d879 d880 d881 rfl (by omega) hL ?_
  refine l_arg (d := 2) C0 hS hl d882 d883 d884 d885 d886 rfl (by omega) hL ?_
  refine l_callV (n := 2) (w := (D, τ, LC, a1)) (c0 := 177) (as := [.int (xs (i + 1)), .int (xs (i + 2))]) (rest := []) (M' := MX9_slot) (ci := 0) (C := RX9) (T := TX9) (N := 5) (A0 := fun _ => True) hx hb hml hown hts hl.1 d887 (tX9_slot l D τ a1 _ _ _ e1) rfl rfl q1089 q1090 q1091 q141 q1092 (by decide +kernel) (by decide) rfl (Nat.le_of_ble_eq_true rfl) hcs hP1 hK hI1 hZ1 (by rintro q ⟨c, hc, rfl⟩; exact hA1 c hc) hS (by intro v hv; simp at hv; try (rcases hv with rfl | rfl | rfl | rfl <;> rfl); try (rcases hv with rfl | rfl | rfl <;> rfl); try (rcases hv with rfl | rfl <;> rfl); try (subst hv; rfl)) (by intro q hq; cases hq; rfl) (fun H1 locs1 hQ1 hS hkeep => ?_)
  have hP2 : va_P D gcl (gW (D, τ, LM, a2) ν) H1 := hP2.kept (fun k9 q9 h9 => by
    have hlt := (hP2 k9 q9 h9).lt
    refine hkeep _ hlt ?_
    rintro ⟨c, hc, he⟩
    have h8 : k9 < 17 := by have := (List.getElem?_eq_some_iff.mp h9).1; rw [gW_len] at this; exact this
    rw [gW_get (w := (D, τ, LM, a2)) h8] at h9
    cases h9
    exact hdis c k9 hc h8 he.symm)
  refine lv_aload_n hx hb d890 rfl (lv_at hl 2 rfl) ?_
  refine l_arg (d := 1) C0 hS hl d891 d892 d893 d894 d895 rfl (by omega) hL ?_
  refine l_arg (d := 2) C0 hS hl d896 d897 d898 d899 d900 rfl (by omega) hL ?_
  refine l_callV (n := 2) (w := (D, τ, LM, a2)) (c0 := 0) (as := [.int (xs (i + 1)), .int (xs (i + 2))]) (rest := [.int x]) (M' := MX10_slot) (ci := 9) (C := RX10) (T := TX10) (N := 30) (A0 := fun _ => True) hx hb hml hown hts hl.1 d901 (tX10_slot l D τ a2 _ _ _ e2) rfl rfl q1773 q1774 q1775 q150 q1776 (by decide +kernel) (by decide) rfl (Nat.le_of_ble_eq_true rfl) hcs hP2 hK hI2 hZ2 (by rintro q ⟨c, hc, rfl⟩; exact hA2 c hc) hS (by intro v hv; simp at hv; try (rcases hv with rfl | rfl | rfl | rfl <;> rfl); try (rcases hv with rfl | rfl | rfl <;> rfl); try (rcases hv with rfl | rfl <;> rfl); try (subst hv; rfl)) (by intro q hq; cases hq; rfl) (fun H2 locs2 hQ2 hS hkeep2 => ?_)
  have hQ1 : va_P D gcl (gW (D, τ, LC, a1) μ') H2 := hQ1.kept (fun k9 q9 h9 => by
    have hlt := (hQ1 k9 q9 h9).lt
    refine hkeep2 _ hlt ?_
    rintro ⟨c, hc, he⟩
    have h8 : k9 < 182 := by have := (List.getElem?_eq_some_iff.mp h9).1; rw [gW_len] at this; exact this
    rw [gW_get (w := (D, τ, LC, a1)) h8] at h9
    cases h9
    exact hdis k9 c h8 hc he)
  refine lv_icmp_eq (tgt := 1172) hx hb d904 (by decide) (fun _ => ?_) (fun hc => absurd rfl hc)
  exact kk _ _ μ' ν' ⟨hQ1, hQ2, hS⟩ hR'
set_option maxRecDepth 20000 in
theorem lwd_25 : ∀ e ∈ ([(909, .aload_n 1, 1), (910, .aload_n 0, 1), (911, .iload_n 3, 1), (912, .iconst 1, 1), (913, .iadd, 1), (914, .iaload, 1), (915, .invokevirtual 121, 3), (918, .aload_n 2, 1), (919, .aload_n 0, 1), (920, .iload_n 3, 1), (921, .iconst 1, 1), (922, .iadd, 1), (923, .iaload, 1), (924, .invokevirtual 124, 3), (927, .if_icmp .eq 245, 3), (930, .iconst 0, 1), (931, .ireturn, 1)] : List (Nat × Instr × Nat)), decode code e.1 = .ok (e.2.1, e.2.2) := by decide +kernel
set_option maxHeartbeats 2000000 in
theorem lc_25 {D : va_G} {τ : ClassId × ClassId × ClassId × ClassId} {a1 a2 : Nat → Nat} {Rl : Nat → gMem → gMem → Prop} {i k : Nat} (C0 : lw_At p s m meth c b L xs) (hL : L ≤ 2560) (F : LF D τ a1 a2 s) (hl : lv_has ls 4 [(0, .ref b), (1, .ref (a1 177)), (2, .ref (a2 0)), (3, .int (nI i))]) (hi : i + 4 < L) (hk : k < 512) (hcs : cells ≤ 600000 ∧ slots ≤ 7302250) (ok : oK Rl mX9_queue mX10_queue [.int (xs (i + 1))])
    (kk : ∀ (H : Heap) (locs : List Loc) (μ ν : gMem), LW D τ a1 a2 s μ ν H locs → Rl (k + 1) μ ν → W p l e room_1 s m #[Value.ref b] below meth c H locs cells slots Q (F0 m 1172 ls [])) (H : Heap) (locs : List Loc) (μ ν : gMem) (hW : LW D τ a1 a2 s μ ν H locs) (hR : Rl k μ ν) : W p l e room_1 s m #[Value.ref b] below meth c H locs cells slots Q (F0 m 909 ls []) := by
  have d909 : decode code 909 = .ok (.aload_n 1, 1) := lwd_25 (909, .aload_n 1, 1) (List.mem_of_getElem? (i := 0) rfl)
  have d910 : decode code 910 = .ok (.aload_n 0, 1) := lwd_25 (910, .aload_n 0, 1) (List.mem_of_getElem? (i := 1) rfl)
  have d911 : decode code 911 = .ok (.iload_n 3, 1) := lwd_25 (911, .iload_n 3, 1) (List.mem_of_getElem? (i := 2) rfl)
  have d912 : decode code 912 = .ok (.iconst 1, 1) := lwd_25 (912, .iconst 1, 1) (List.mem_of_getElem? (i := 3) rfl)
  have d913 : decode code 913 = .ok (.iadd, 1) := lwd_25 (913, .iadd, 1) (List.mem_of_getElem? (i := 4) rfl)
  have d914 : decode code 914 = .ok (.iaload, 1) := lwd_25 (914, .iaload, 1) (List.mem_of_getElem? (i := 5) rfl)
  have d915 : decode code 915 = .ok (.invokevirtual 121, 3) := lwd_25 (915, .invokevirtual 121, 3) (List.mem_of_getElem? (i := 6) rfl)
  have d918 : decode code 918 = .ok (.aload_n 2, 1) := lwd_25 (918, .aload_n 2, 1) (List.mem_of_getElem? (i := 7) rfl)
  have d919 : decode code 919 = .ok (.aload_n 0, 1) := lwd_25 (919, .aload_n 0, 1) (List.mem_of_getElem? (i := 8) rfl)
  have d920 : decode code 920 = .ok (.iload_n 3, 1) := lwd_25 (920, .iload_n 3, 1) (List.mem_of_getElem? (i := 9) rfl)
  have d921 : decode code 921 = .ok (.iconst 1, 1) := lwd_25 (921, .iconst 1, 1) (List.mem_of_getElem? (i := 10) rfl)
  have d922 : decode code 922 = .ok (.iadd, 1) := lwd_25 (922, .iadd, 1) (List.mem_of_getElem? (i := 11) rfl)
  have d923 : decode code 923 = .ok (.iaload, 1) := lwd_25 (923, .iaload, 1) (List.mem_of_getElem? (i := 12) rfl)
  have d924 : decode code 924 = .ok (.invokevirtual 124, 3) := lwd_25 (924, .invokevirtual 124, 3) (List.mem_of_getElem? (i := 13) rfl)
  have d927 : decode code 927 = .ok (.if_icmp .eq 245, 3) := lwd_25 (927, .if_icmp .eq 245, 3) (List.mem_of_getElem? (i := 14) rfl)
  have d930 : decode code 930 = .ok (.iconst 0, 1) := lwd_25 (930, .iconst 0, 1) (List.mem_of_getElem? (i := 15) rfl)
  have d931 : decode code 931 = .ok (.ireturn, 1) := lwd_25 (931, .ireturn, 1) (List.mem_of_getElem? (i := 16) rfl)
  obtain ⟨hx, hb, hr, hml, hown, hts, hX, hbl, hlocks, hgv⟩ := id C0
  obtain ⟨hK, hI1, hI2, hZ1, hZ2, hA1, hA2, hdis⟩ := F
  obtain ⟨hP1, hP2, hS⟩ := hW
  obtain ⟨x, μ', ν', e1, e2, hR'⟩ := ok k μ ν hk hR
  refine lv_aload_n hx hb d909 rfl (lv_at hl 1 rfl) ?_
  refine l_arg (d := 1) C0 hS hl d910 d911 d912 d913 d914 rfl (by omega) hL ?_
  refine l_callV (n := 1) (w := (D, τ, LC, a1)) (c0 := 177) (as := [.int (xs (i + 1))]) (rest := []) (M' := MX9_queue) (ci := 0) (C := RX9) (T := TX9) (N := 5) (A0 := fun _ => True) hx hb hml hown hts hl.1 d915 (tX9_queue l D τ a1 _ _ _ e1) rfl rfl q1100 q1101 q1102 q141 q1103 (by decide +kernel) (by decide) rfl (Nat.le_of_ble_eq_true rfl) hcs hP1 hK hI1 hZ1 (by rintro q ⟨c, hc, rfl⟩; exact hA1 c hc) hS (by intro v hv; simp at hv; try (rcases hv with rfl | rfl | rfl | rfl <;> rfl); try (rcases hv with rfl | rfl | rfl <;> rfl); try (rcases hv with rfl | rfl <;> rfl); try (subst hv; rfl)) (by intro q hq; cases hq; rfl) (fun H1 locs1 hQ1 hS hkeep => ?_)
  have hP2 : va_P D gcl (gW (D, τ, LM, a2) ν) H1 := hP2.kept (fun k9 q9 h9 => by
    have hlt := (hP2 k9 q9 h9).lt
    refine hkeep _ hlt ?_
    rintro ⟨c, hc, he⟩
    have h8 : k9 < 17 := by have := (List.getElem?_eq_some_iff.mp h9).1; rw [gW_len] at this; exact this
    rw [gW_get (w := (D, τ, LM, a2)) h8] at h9
    cases h9
    exact hdis c k9 hc h8 he.symm)
  refine lv_aload_n hx hb d918 rfl (lv_at hl 2 rfl) ?_
  refine l_arg (d := 1) C0 hS hl d919 d920 d921 d922 d923 rfl (by omega) hL ?_
  refine l_callV (n := 1) (w := (D, τ, LM, a2)) (c0 := 0) (as := [.int (xs (i + 1))]) (rest := [.int x]) (M' := MX10_queue) (ci := 9) (C := RX10) (T := TX10) (N := 30) (A0 := fun _ => True) hx hb hml hown hts hl.1 d924 (tX10_queue l D τ a2 _ _ _ e2) rfl rfl q1437 q1438 q1439 q150 q1440 (by decide +kernel) (by decide) rfl (Nat.le_of_ble_eq_true rfl) hcs hP2 hK hI2 hZ2 (by rintro q ⟨c, hc, rfl⟩; exact hA2 c hc) hS (by intro v hv; simp at hv; try (rcases hv with rfl | rfl | rfl | rfl <;> rfl); try (rcases hv with rfl | rfl | rfl <;> rfl); try (rcases hv with rfl | rfl <;> rfl); try (subst hv; rfl)) (by intro q hq; cases hq; rfl) (fun H2 locs2 hQ2 hS hkeep2 => ?_)
  have hQ1 : va_P D gcl (gW (D, τ, LC, a1) μ') H2 := hQ1.kept (fun k9 q9 h9 => by
    have hlt := (hQ1 k9 q9 h9).lt
    refine hkeep2 _ hlt ?_
    rintro ⟨c, hc, he⟩
    have h8 : k9 < 182 := by have := (List.getElem?_eq_some_iff.mp h9).1; rw [gW_len] at this; exact this
    rw [gW_get (w := (D, τ, LC, a1)) h8] at h9
    cases h9
    exact hdis k9 c h8 hc he)
  refine lv_icmp_eq (tgt := 1172) hx hb d927 (by decide) (fun _ => ?_) (fun hc => absurd rfl hc)
  exact kk _ _ μ' ν' ⟨hQ1, hQ2, hS⟩ hR'
set_option maxRecDepth 20000 in
theorem lwd_26 : ∀ e ∈ ([(932, .aload_n 1, 1), (933, .aload_n 0, 1), (934, .iload_n 3, 1), (935, .iconst 1, 1), (936, .iadd, 1), (937, .iaload, 1), (938, .aload_n 0, 1), (939, .iload_n 3, 1), (940, .iconst 2, 1), (941, .iadd, 1), (942, .iaload, 1), (943, .invokevirtual 125, 3), (946, .aload_n 2, 1), (947, .aload_n 0, 1), (948, .iload_n 3, 1), (949, .iconst 1, 1), (950, .iadd, 1), (951, .iaload, 1), (952, .aload_n 0, 1), (953, .iload_n 3, 1), (954, .iconst 2, 1), (955, .iadd, 1), (956, .iaload, 1), (957, .invokevirtual 128, 3), (960, .if_icmp .eq 212, 3), (963, .iconst 0, 1), (964, .ireturn, 1)] : List (Nat × Instr × Nat)), decode code e.1 = .ok (e.2.1, e.2.2) := by decide +kernel
set_option maxHeartbeats 2000000 in
theorem lc_26 {D : va_G} {τ : ClassId × ClassId × ClassId × ClassId} {a1 a2 : Nat → Nat} {Rl : Nat → gMem → gMem → Prop} {i k : Nat} (C0 : lw_At p s m meth c b L xs) (hL : L ≤ 2560) (F : LF D τ a1 a2 s) (hl : lv_has ls 4 [(0, .ref b), (1, .ref (a1 177)), (2, .ref (a2 0)), (3, .int (nI i))]) (hi : i + 4 < L) (hk : k < 512) (hcs : cells ≤ 600000 ∧ slots ≤ 7302250) (ok : oK Rl mX9_lends mX10_lends [.int (xs (i + 1)), .int (xs (i + 2))])
    (kk : ∀ (H : Heap) (locs : List Loc) (μ ν : gMem), LW D τ a1 a2 s μ ν H locs → Rl (k + 1) μ ν → W p l e room_1 s m #[Value.ref b] below meth c H locs cells slots Q (F0 m 1172 ls [])) (H : Heap) (locs : List Loc) (μ ν : gMem) (hW : LW D τ a1 a2 s μ ν H locs) (hR : Rl k μ ν) : W p l e room_1 s m #[Value.ref b] below meth c H locs cells slots Q (F0 m 932 ls []) := by
  have d932 : decode code 932 = .ok (.aload_n 1, 1) := lwd_26 (932, .aload_n 1, 1) (List.mem_of_getElem? (i := 0) rfl)
  have d933 : decode code 933 = .ok (.aload_n 0, 1) := lwd_26 (933, .aload_n 0, 1) (List.mem_of_getElem? (i := 1) rfl)
  have d934 : decode code 934 = .ok (.iload_n 3, 1) := lwd_26 (934, .iload_n 3, 1) (List.mem_of_getElem? (i := 2) rfl)
  have d935 : decode code 935 = .ok (.iconst 1, 1) := lwd_26 (935, .iconst 1, 1) (List.mem_of_getElem? (i := 3) rfl)
  have d936 : decode code 936 = .ok (.iadd, 1) := lwd_26 (936, .iadd, 1) (List.mem_of_getElem? (i := 4) rfl)
  have d937 : decode code 937 = .ok (.iaload, 1) := lwd_26 (937, .iaload, 1) (List.mem_of_getElem? (i := 5) rfl)
  have d938 : decode code 938 = .ok (.aload_n 0, 1) := lwd_26 (938, .aload_n 0, 1) (List.mem_of_getElem? (i := 6) rfl)
  have d939 : decode code 939 = .ok (.iload_n 3, 1) := lwd_26 (939, .iload_n 3, 1) (List.mem_of_getElem? (i := 7) rfl)
  have d940 : decode code 940 = .ok (.iconst 2, 1) := lwd_26 (940, .iconst 2, 1) (List.mem_of_getElem? (i := 8) rfl)
  have d941 : decode code 941 = .ok (.iadd, 1) := lwd_26 (941, .iadd, 1) (List.mem_of_getElem? (i := 9) rfl)
  have d942 : decode code 942 = .ok (.iaload, 1) := lwd_26 (942, .iaload, 1) (List.mem_of_getElem? (i := 10) rfl)
  have d943 : decode code 943 = .ok (.invokevirtual 125, 3) := lwd_26 (943, .invokevirtual 125, 3) (List.mem_of_getElem? (i := 11) rfl)
  have d946 : decode code 946 = .ok (.aload_n 2, 1) := lwd_26 (946, .aload_n 2, 1) (List.mem_of_getElem? (i := 12) rfl)
  have d947 : decode code 947 = .ok (.aload_n 0, 1) := lwd_26 (947, .aload_n 0, 1) (List.mem_of_getElem? (i := 13) rfl)
  have d948 : decode code 948 = .ok (.iload_n 3, 1) := lwd_26 (948, .iload_n 3, 1) (List.mem_of_getElem? (i := 14) rfl)
  have d949 : decode code 949 = .ok (.iconst 1, 1) := lwd_26 (949, .iconst 1, 1) (List.mem_of_getElem? (i := 15) rfl)
  have d950 : decode code 950 = .ok (.iadd, 1) := lwd_26 (950, .iadd, 1) (List.mem_of_getElem? (i := 16) rfl)
  have d951 : decode code 951 = .ok (.iaload, 1) := lwd_26 (951, .iaload, 1) (List.mem_of_getElem? (i := 17) rfl)
  have d952 : decode code 952 = .ok (.aload_n 0, 1) := lwd_26 (952, .aload_n 0, 1) (List.mem_of_getElem? (i := 18) rfl)
  have d953 : decode code 953 = .ok (.iload_n 3, 1) := lwd_26 (953, .iload_n 3, 1) (List.mem_of_getElem? (i := 19) rfl)
  have d954 : decode code 954 = .ok (.iconst 2, 1) := lwd_26 (954, .iconst 2, 1) (List.mem_of_getElem? (i := 20) rfl)
  have d955 : decode code 955 = .ok (.iadd, 1) := lwd_26 (955, .iadd, 1) (List.mem_of_getElem? (i := 21) rfl)
  have d956 : decode code 956 = .ok (.iaload, 1) := lwd_26 (956, .iaload, 1) (List.mem_of_getElem? (i := 22) rfl)
  have d957 : decode code 957 = .ok (.invokevirtual 128, 3) := lwd_26 (957, .invokevirtual 128, 3) (List.mem_of_getElem? (i := 23) rfl)
  have d960 : decode code 960 = .ok (.if_icmp .eq 212, 3) := lwd_26 (960, .if_icmp .eq 212, 3) (List.mem_of_getElem? (i := 24) rfl)
  have d963 : decode code 963 = .ok (.iconst 0, 1) := lwd_26 (963, .iconst 0, 1) (List.mem_of_getElem? (i := 25) rfl)
  have d964 : decode code 964 = .ok (.ireturn, 1) := lwd_26 (964, .ireturn, 1) (List.mem_of_getElem? (i := 26) rfl)
  obtain ⟨hx, hb, hr, hml, hown, hts, hX, hbl, hlocks, hgv⟩ := id C0
  obtain ⟨hK, hI1, hI2, hZ1, hZ2, hA1, hA2, hdis⟩ := F
  obtain ⟨hP1, hP2, hS⟩ := hW
  obtain ⟨x, μ', ν', e1, e2, hR'⟩ := ok k μ ν hk hR
  refine lv_aload_n hx hb d932 rfl (lv_at hl 1 rfl) ?_
  refine l_arg (d := 1) C0 hS hl d933 d934 d935 d936 d937 rfl (by omega) hL ?_
  refine l_arg (d := 2) C0 hS hl d938 d939 d940 d941 d942 rfl (by omega) hL ?_
  refine l_callV (n := 2) (w := (D, τ, LC, a1)) (c0 := 177) (as := [.int (xs (i + 1)), .int (xs (i + 2))]) (rest := []) (M' := MX9_lends) (ci := 0) (C := RX9) (T := TX9) (N := 5) (A0 := fun _ => True) hx hb hml hown hts hl.1 d943 (tX9_lends l D τ a1 _ _ _ e1) rfl rfl q1105 q1106 q1107 q141 q1108 (by decide +kernel) (by decide) rfl (Nat.le_of_ble_eq_true rfl) hcs hP1 hK hI1 hZ1 (by rintro q ⟨c, hc, rfl⟩; exact hA1 c hc) hS (by intro v hv; simp at hv; try (rcases hv with rfl | rfl | rfl | rfl <;> rfl); try (rcases hv with rfl | rfl | rfl <;> rfl); try (rcases hv with rfl | rfl <;> rfl); try (subst hv; rfl)) (by intro q hq; cases hq; rfl) (fun H1 locs1 hQ1 hS hkeep => ?_)
  have hP2 : va_P D gcl (gW (D, τ, LM, a2) ν) H1 := hP2.kept (fun k9 q9 h9 => by
    have hlt := (hP2 k9 q9 h9).lt
    refine hkeep _ hlt ?_
    rintro ⟨c, hc, he⟩
    have h8 : k9 < 17 := by have := (List.getElem?_eq_some_iff.mp h9).1; rw [gW_len] at this; exact this
    rw [gW_get (w := (D, τ, LM, a2)) h8] at h9
    cases h9
    exact hdis c k9 hc h8 he.symm)
  refine lv_aload_n hx hb d946 rfl (lv_at hl 2 rfl) ?_
  refine l_arg (d := 1) C0 hS hl d947 d948 d949 d950 d951 rfl (by omega) hL ?_
  refine l_arg (d := 2) C0 hS hl d952 d953 d954 d955 d956 rfl (by omega) hL ?_
  refine l_callV (n := 2) (w := (D, τ, LM, a2)) (c0 := 0) (as := [.int (xs (i + 1)), .int (xs (i + 2))]) (rest := [.int x]) (M' := MX10_lends) (ci := 9) (C := RX10) (T := TX10) (N := 30) (A0 := fun _ => True) hx hb hml hown hts hl.1 d957 (tX10_lends l D τ a2 _ _ _ e2) rfl rfl q1655 q1656 q1657 q150 q1658 (by decide +kernel) (by decide) rfl (Nat.le_of_ble_eq_true rfl) hcs hP2 hK hI2 hZ2 (by rintro q ⟨c, hc, rfl⟩; exact hA2 c hc) hS (by intro v hv; simp at hv; try (rcases hv with rfl | rfl | rfl | rfl <;> rfl); try (rcases hv with rfl | rfl | rfl <;> rfl); try (rcases hv with rfl | rfl <;> rfl); try (subst hv; rfl)) (by intro q hq; cases hq; rfl) (fun H2 locs2 hQ2 hS hkeep2 => ?_)
  have hQ1 : va_P D gcl (gW (D, τ, LC, a1) μ') H2 := hQ1.kept (fun k9 q9 h9 => by
    have hlt := (hQ1 k9 q9 h9).lt
    refine hkeep2 _ hlt ?_
    rintro ⟨c, hc, he⟩
    have h8 : k9 < 182 := by have := (List.getElem?_eq_some_iff.mp h9).1; rw [gW_len] at this; exact this
    rw [gW_get (w := (D, τ, LC, a1)) h8] at h9
    cases h9
    exact hdis k9 c h8 hc he)
  refine lv_icmp_eq (tgt := 1172) hx hb d960 (by decide) (fun _ => ?_) (fun hc => absurd rfl hc)
  exact kk _ _ μ' ν' ⟨hQ1, hQ2, hS⟩ hR'
set_option maxRecDepth 20000 in
theorem lwd_27 : ∀ e ∈ ([(965, .aload_n 1, 1), (966, .aload_n 0, 1), (967, .iload_n 3, 1), (968, .iconst 1, 1), (969, .iadd, 1), (970, .iaload, 1), (971, .aload_n 0, 1), (972, .iload_n 3, 1), (973, .iconst 2, 1), (974, .iadd, 1), (975, .iaload, 1), (976, .invokevirtual 129, 3), (979, .aload_n 2, 1), (980, .aload_n 0, 1), (981, .iload_n 3, 1), (982, .iconst 1, 1), (983, .iadd, 1), (984, .iaload, 1), (985, .aload_n 0, 1), (986, .iload_n 3, 1), (987, .iconst 2, 1), (988, .iadd, 1), (989, .iaload, 1), (990, .invokevirtual 132, 3), (993, .if_icmp .eq 179, 3), (996, .iconst 0, 1), (997, .ireturn, 1)] : List (Nat × Instr × Nat)), decode code e.1 = .ok (e.2.1, e.2.2) := by decide +kernel
set_option maxHeartbeats 2000000 in
theorem lc_27 {D : va_G} {τ : ClassId × ClassId × ClassId × ClassId} {a1 a2 : Nat → Nat} {Rl : Nat → gMem → gMem → Prop} {i k : Nat} (C0 : lw_At p s m meth c b L xs) (hL : L ≤ 2560) (F : LF D τ a1 a2 s) (hl : lv_has ls 4 [(0, .ref b), (1, .ref (a1 177)), (2, .ref (a2 0)), (3, .int (nI i))]) (hi : i + 4 < L) (hk : k < 512) (hcs : cells ≤ 600000 ∧ slots ≤ 7302250) (ok : oK Rl mX9_would mX10_would [.int (xs (i + 1)), .int (xs (i + 2))])
    (kk : ∀ (H : Heap) (locs : List Loc) (μ ν : gMem), LW D τ a1 a2 s μ ν H locs → Rl (k + 1) μ ν → W p l e room_1 s m #[Value.ref b] below meth c H locs cells slots Q (F0 m 1172 ls [])) (H : Heap) (locs : List Loc) (μ ν : gMem) (hW : LW D τ a1 a2 s μ ν H locs) (hR : Rl k μ ν) : W p l e room_1 s m #[Value.ref b] below meth c H locs cells slots Q (F0 m 965 ls []) := by
  have d965 : decode code 965 = .ok (.aload_n 1, 1) := lwd_27 (965, .aload_n 1, 1) (List.mem_of_getElem? (i := 0) rfl)
  have d966 : decode code 966 = .ok (.aload_n 0, 1) := lwd_27 (966, .aload_n 0, 1) (List.mem_of_getElem? (i := 1) rfl)
  have d967 : decode code 967 = .ok (.iload_n 3, 1) := lwd_27 (967, .iload_n 3, 1) (List.mem_of_getElem? (i := 2) rfl)
  have d968 : decode code 968 = .ok (.iconst 1, 1) := lwd_27 (968, .iconst 1, 1) (List.mem_of_getElem? (i := 3) rfl)
  have d969 : decode code 969 = .ok (.iadd, 1) := lwd_27 (969, .iadd, 1) (List.mem_of_getElem? (i := 4) rfl)
  have d970 : decode code 970 = .ok (.iaload, 1) := lwd_27 (970, .iaload, 1) (List.mem_of_getElem? (i := 5) rfl)
  have d971 : decode code 971 = .ok (.aload_n 0, 1) := lwd_27 (971, .aload_n 0, 1) (List.mem_of_getElem? (i := 6) rfl)
  have d972 : decode code 972 = .ok (.iload_n 3, 1) := lwd_27 (972, .iload_n 3, 1) (List.mem_of_getElem? (i := 7) rfl)
  have d973 : decode code 973 = .ok (.iconst 2, 1) := lwd_27 (973, .iconst 2, 1) (List.mem_of_getElem? (i := 8) rfl)
  have d974 : decode code 974 = .ok (.iadd, 1) := lwd_27 (974, .iadd, 1) (List.mem_of_getElem? (i := 9) rfl)
  have d975 : decode code 975 = .ok (.iaload, 1) := lwd_27 (975, .iaload, 1) (List.mem_of_getElem? (i := 10) rfl)
  have d976 : decode code 976 = .ok (.invokevirtual 129, 3) := lwd_27 (976, .invokevirtual 129, 3) (List.mem_of_getElem? (i := 11) rfl)
  have d979 : decode code 979 = .ok (.aload_n 2, 1) := lwd_27 (979, .aload_n 2, 1) (List.mem_of_getElem? (i := 12) rfl)
  have d980 : decode code 980 = .ok (.aload_n 0, 1) := lwd_27 (980, .aload_n 0, 1) (List.mem_of_getElem? (i := 13) rfl)
  have d981 : decode code 981 = .ok (.iload_n 3, 1) := lwd_27 (981, .iload_n 3, 1) (List.mem_of_getElem? (i := 14) rfl)
  have d982 : decode code 982 = .ok (.iconst 1, 1) := lwd_27 (982, .iconst 1, 1) (List.mem_of_getElem? (i := 15) rfl)
  have d983 : decode code 983 = .ok (.iadd, 1) := lwd_27 (983, .iadd, 1) (List.mem_of_getElem? (i := 16) rfl)
  have d984 : decode code 984 = .ok (.iaload, 1) := lwd_27 (984, .iaload, 1) (List.mem_of_getElem? (i := 17) rfl)
  have d985 : decode code 985 = .ok (.aload_n 0, 1) := lwd_27 (985, .aload_n 0, 1) (List.mem_of_getElem? (i := 18) rfl)
  have d986 : decode code 986 = .ok (.iload_n 3, 1) := lwd_27 (986, .iload_n 3, 1) (List.mem_of_getElem? (i := 19) rfl)
  have d987 : decode code 987 = .ok (.iconst 2, 1) := lwd_27 (987, .iconst 2, 1) (List.mem_of_getElem? (i := 20) rfl)
  have d988 : decode code 988 = .ok (.iadd, 1) := lwd_27 (988, .iadd, 1) (List.mem_of_getElem? (i := 21) rfl)
  have d989 : decode code 989 = .ok (.iaload, 1) := lwd_27 (989, .iaload, 1) (List.mem_of_getElem? (i := 22) rfl)
  have d990 : decode code 990 = .ok (.invokevirtual 132, 3) := lwd_27 (990, .invokevirtual 132, 3) (List.mem_of_getElem? (i := 23) rfl)
  have d993 : decode code 993 = .ok (.if_icmp .eq 179, 3) := lwd_27 (993, .if_icmp .eq 179, 3) (List.mem_of_getElem? (i := 24) rfl)
  have d996 : decode code 996 = .ok (.iconst 0, 1) := lwd_27 (996, .iconst 0, 1) (List.mem_of_getElem? (i := 25) rfl)
  have d997 : decode code 997 = .ok (.ireturn, 1) := lwd_27 (997, .ireturn, 1) (List.mem_of_getElem? (i := 26) rfl)
  obtain ⟨hx, hb, hr, hml, hown, hts, hX, hbl, hlocks, hgv⟩ := id C0
  obtain ⟨hK, hI1, hI2, hZ1, hZ2, hA1, hA2, hdis⟩ := F
  obtain ⟨hP1, hP2, hS⟩ := hW
  obtain ⟨x, μ', ν', e1, e2, hR'⟩ := ok k μ ν hk hR
  refine lv_aload_n hx hb d965 rfl (lv_at hl 1 rfl) ?_
  refine l_arg (d := 1) C0 hS hl d966 d967 d968 d969 d970 rfl (by omega) hL ?_
  refine l_arg (d := 2) C0 hS hl d971 d972 d973 d974 d975 rfl (by omega) hL ?_
  refine l_callV (n := 2) (w := (D, τ, LC, a1)) (c0 := 177) (as := [.int (xs (i + 1)), .int (xs (i + 2))]) (rest := []) (M' := MX9_would) (ci := 0) (C := RX9) (T := TX9) (N := 5) (A0 := fun _ => True) hx hb hml hown hts hl.1 d976 (tX9_would l D τ a1 _ _ _ e1) rfl rfl q1114 q1115 q1116 q141 q1117 (by decide +kernel) (by decide) rfl (Nat.le_of_ble_eq_true rfl) hcs hP1 hK hI1 hZ1 (by rintro q ⟨c, hc, rfl⟩; exact hA1 c hc) hS (by intro v hv; simp at hv; try (rcases hv with rfl | rfl | rfl | rfl <;> rfl); try (rcases hv with rfl | rfl | rfl <;> rfl); try (rcases hv with rfl | rfl <;> rfl); try (subst hv; rfl)) (by intro q hq; cases hq; rfl) (fun H1 locs1 hQ1 hS hkeep => ?_)
  have hP2 : va_P D gcl (gW (D, τ, LM, a2) ν) H1 := hP2.kept (fun k9 q9 h9 => by
    have hlt := (hP2 k9 q9 h9).lt
    refine hkeep _ hlt ?_
    rintro ⟨c, hc, he⟩
    have h8 : k9 < 17 := by have := (List.getElem?_eq_some_iff.mp h9).1; rw [gW_len] at this; exact this
    rw [gW_get (w := (D, τ, LM, a2)) h8] at h9
    cases h9
    exact hdis c k9 hc h8 he.symm)
  refine lv_aload_n hx hb d979 rfl (lv_at hl 2 rfl) ?_
  refine l_arg (d := 1) C0 hS hl d980 d981 d982 d983 d984 rfl (by omega) hL ?_
  refine l_arg (d := 2) C0 hS hl d985 d986 d987 d988 d989 rfl (by omega) hL ?_
  refine l_callV (n := 2) (w := (D, τ, LM, a2)) (c0 := 0) (as := [.int (xs (i + 1)), .int (xs (i + 2))]) (rest := [.int x]) (M' := MX10_would) (ci := 9) (C := RX10) (T := TX10) (N := 30) (A0 := fun _ => True) hx hb hml hown hts hl.1 d990 (tX10_would l D τ a2 _ _ _ e2) rfl rfl q1716 q1717 q1718 q150 q1719 (by decide +kernel) (by decide) rfl (Nat.le_of_ble_eq_true rfl) hcs hP2 hK hI2 hZ2 (by rintro q ⟨c, hc, rfl⟩; exact hA2 c hc) hS (by intro v hv; simp at hv; try (rcases hv with rfl | rfl | rfl | rfl <;> rfl); try (rcases hv with rfl | rfl | rfl <;> rfl); try (rcases hv with rfl | rfl <;> rfl); try (subst hv; rfl)) (by intro q hq; cases hq; rfl) (fun H2 locs2 hQ2 hS hkeep2 => ?_)
  have hQ1 : va_P D gcl (gW (D, τ, LC, a1) μ') H2 := hQ1.kept (fun k9 q9 h9 => by
    have hlt := (hQ1 k9 q9 h9).lt
    refine hkeep2 _ hlt ?_
    rintro ⟨c, hc, he⟩
    have h8 : k9 < 182 := by have := (List.getElem?_eq_some_iff.mp h9).1; rw [gW_len] at this; exact this
    rw [gW_get (w := (D, τ, LC, a1)) h8] at h9
    cases h9
    exact hdis k9 c h8 hc he)
  refine lv_icmp_eq (tgt := 1172) hx hb d993 (by decide) (fun _ => ?_) (fun hc => absurd rfl hc)
  exact kk _ _ μ' ν' ⟨hQ1, hQ2, hS⟩ hR'
set_option maxRecDepth 20000 in
theorem lwd_28 : ∀ e ∈ ([(998, .aload_n 1, 1), (999, .aload_n 0, 1), (1000, .iload_n 3, 1), (1001, .iconst 1, 1), (1002, .iadd, 1), (1003, .iaload, 1), (1004, .invokevirtual 133, 3), (1007, .aload_n 2, 1), (1008, .aload_n 0, 1), (1009, .iload_n 3, 1), (1010, .iconst 1, 1), (1011, .iadd, 1), (1012, .iaload, 1), (1013, .invokevirtual 136, 3), (1016, .if_icmp .eq 156, 3), (1019, .iconst 0, 1), (1020, .ireturn, 1)] : List (Nat × Instr × Nat)), decode code e.1 = .ok (e.2.1, e.2.2) := by decide +kernel
set_option maxHeartbeats 2000000 in
theorem lc_28 {D : va_G} {τ : ClassId × ClassId × ClassId × ClassId} {a1 a2 : Nat → Nat} {Rl : Nat → gMem → gMem → Prop} {i k : Nat} (C0 : lw_At p s m meth c b L xs) (hL : L ≤ 2560) (F : LF D τ a1 a2 s) (hl : lv_has ls 4 [(0, .ref b), (1, .ref (a1 177)), (2, .ref (a2 0)), (3, .int (nI i))]) (hi : i + 4 < L) (hk : k < 512) (hcs : cells ≤ 600000 ∧ slots ≤ 7302250) (ok : oK Rl mX9_when mX10_when [.int (xs (i + 1))])
    (kk : ∀ (H : Heap) (locs : List Loc) (μ ν : gMem), LW D τ a1 a2 s μ ν H locs → Rl (k + 1) μ ν → W p l e room_1 s m #[Value.ref b] below meth c H locs cells slots Q (F0 m 1172 ls [])) (H : Heap) (locs : List Loc) (μ ν : gMem) (hW : LW D τ a1 a2 s μ ν H locs) (hR : Rl k μ ν) : W p l e room_1 s m #[Value.ref b] below meth c H locs cells slots Q (F0 m 998 ls []) := by
  have d998 : decode code 998 = .ok (.aload_n 1, 1) := lwd_28 (998, .aload_n 1, 1) (List.mem_of_getElem? (i := 0) rfl)
  have d999 : decode code 999 = .ok (.aload_n 0, 1) := lwd_28 (999, .aload_n 0, 1) (List.mem_of_getElem? (i := 1) rfl)
  have d1000 : decode code 1000 = .ok (.iload_n 3, 1) := lwd_28 (1000, .iload_n 3, 1) (List.mem_of_getElem? (i := 2) rfl)
  have d1001 : decode code 1001 = .ok (.iconst 1, 1) := lwd_28 (1001, .iconst 1, 1) (List.mem_of_getElem? (i := 3) rfl)
  have d1002 : decode code 1002 = .ok (.iadd, 1) := lwd_28 (1002, .iadd, 1) (List.mem_of_getElem? (i := 4) rfl)
  have d1003 : decode code 1003 = .ok (.iaload, 1) := lwd_28 (1003, .iaload, 1) (List.mem_of_getElem? (i := 5) rfl)
  have d1004 : decode code 1004 = .ok (.invokevirtual 133, 3) := lwd_28 (1004, .invokevirtual 133, 3) (List.mem_of_getElem? (i := 6) rfl)
  have d1007 : decode code 1007 = .ok (.aload_n 2, 1) := lwd_28 (1007, .aload_n 2, 1) (List.mem_of_getElem? (i := 7) rfl)
  have d1008 : decode code 1008 = .ok (.aload_n 0, 1) := lwd_28 (1008, .aload_n 0, 1) (List.mem_of_getElem? (i := 8) rfl)
  have d1009 : decode code 1009 = .ok (.iload_n 3, 1) := lwd_28 (1009, .iload_n 3, 1) (List.mem_of_getElem? (i := 9) rfl)
  have d1010 : decode code 1010 = .ok (.iconst 1, 1) := lwd_28 (1010, .iconst 1, 1) (List.mem_of_getElem? (i := 10) rfl)
  have d1011 : decode code 1011 = .ok (.iadd, 1) := lwd_28 (1011, .iadd, 1) (List.mem_of_getElem? (i := 11) rfl)
  have d1012 : decode code 1012 = .ok (.iaload, 1) := lwd_28 (1012, .iaload, 1) (List.mem_of_getElem? (i := 12) rfl)
  have d1013 : decode code 1013 = .ok (.invokevirtual 136, 3) := lwd_28 (1013, .invokevirtual 136, 3) (List.mem_of_getElem? (i := 13) rfl)
  have d1016 : decode code 1016 = .ok (.if_icmp .eq 156, 3) := lwd_28 (1016, .if_icmp .eq 156, 3) (List.mem_of_getElem? (i := 14) rfl)
  have d1019 : decode code 1019 = .ok (.iconst 0, 1) := lwd_28 (1019, .iconst 0, 1) (List.mem_of_getElem? (i := 15) rfl)
  have d1020 : decode code 1020 = .ok (.ireturn, 1) := lwd_28 (1020, .ireturn, 1) (List.mem_of_getElem? (i := 16) rfl)
  obtain ⟨hx, hb, hr, hml, hown, hts, hX, hbl, hlocks, hgv⟩ := id C0
  obtain ⟨hK, hI1, hI2, hZ1, hZ2, hA1, hA2, hdis⟩ := F
  obtain ⟨hP1, hP2, hS⟩ := hW
  obtain ⟨x, μ', ν', e1, e2, hR'⟩ := ok k μ ν hk hR
  refine lv_aload_n hx hb d998 rfl (lv_at hl 1 rfl) ?_
  refine l_arg (d := 1) C0 hS hl d999 d1000 d1001 d1002 d1003 rfl (by omega) hL ?_
  refine l_callV (n := 1) (w := (D, τ, LC, a1)) (c0 := 177) (as := [.int (xs (i + 1))]) (rest := []) (M' := MX9_when) (ci := 0) (C := RX9) (T := TX9) (N := 5) (A0 := fun _ => True) hx hb hml hown hts hl.1 d1004 (tX9_when l D τ a1 _ _ _ e1) rfl rfl q1152 q1153 q1154 q141 q1155 (by decide +kernel) (by decide) rfl (Nat.le_of_ble_eq_true rfl) hcs hP1 hK hI1 hZ1 (by rintro q ⟨c, hc, rfl⟩; exact hA1 c hc) hS (by intro v hv; simp at hv; try (rcases hv with rfl | rfl | rfl | rfl <;> rfl); try (rcases hv with rfl | rfl | rfl <;> rfl); try (rcases hv with rfl | rfl <;> rfl); try (subst hv; rfl)) (by intro q hq; cases hq; rfl) (fun H1 locs1 hQ1 hS hkeep => ?_)
  have hP2 : va_P D gcl (gW (D, τ, LM, a2) ν) H1 := hP2.kept (fun k9 q9 h9 => by
    have hlt := (hP2 k9 q9 h9).lt
    refine hkeep _ hlt ?_
    rintro ⟨c, hc, he⟩
    have h8 : k9 < 17 := by have := (List.getElem?_eq_some_iff.mp h9).1; rw [gW_len] at this; exact this
    rw [gW_get (w := (D, τ, LM, a2)) h8] at h9
    cases h9
    exact hdis c k9 hc h8 he.symm)
  refine lv_aload_n hx hb d1007 rfl (lv_at hl 2 rfl) ?_
  refine l_arg (d := 1) C0 hS hl d1008 d1009 d1010 d1011 d1012 rfl (by omega) hL ?_
  refine l_callV (n := 1) (w := (D, τ, LM, a2)) (c0 := 0) (as := [.int (xs (i + 1))]) (rest := [.int x]) (M' := MX10_when) (ci := 9) (C := RX10) (T := TX10) (N := 30) (A0 := fun _ => True) hx hb hml hown hts hl.1 d1013 (tX10_when l D τ a2 _ _ _ e2) rfl rfl q1732 q1733 q1734 q150 q1735 (by decide +kernel) (by decide) rfl (Nat.le_of_ble_eq_true rfl) hcs hP2 hK hI2 hZ2 (by rintro q ⟨c, hc, rfl⟩; exact hA2 c hc) hS (by intro v hv; simp at hv; try (rcases hv with rfl | rfl | rfl | rfl <;> rfl); try (rcases hv with rfl | rfl | rfl <;> rfl); try (rcases hv with rfl | rfl <;> rfl); try (subst hv; rfl)) (by intro q hq; cases hq; rfl) (fun H2 locs2 hQ2 hS hkeep2 => ?_)
  have hQ1 : va_P D gcl (gW (D, τ, LC, a1) μ') H2 := hQ1.kept (fun k9 q9 h9 => by
    have hlt := (hQ1 k9 q9 h9).lt
    refine hkeep2 _ hlt ?_
    rintro ⟨c, hc, he⟩
    have h8 : k9 < 182 := by have := (List.getElem?_eq_some_iff.mp h9).1; rw [gW_len] at this; exact this
    rw [gW_get (w := (D, τ, LC, a1)) h8] at h9
    cases h9
    exact hdis k9 c h8 hc he)
  refine lv_icmp_eq (tgt := 1172) hx hb d1016 (by decide) (fun _ => ?_) (fun hc => absurd rfl hc)
  exact kk _ _ μ' ν' ⟨hQ1, hQ2, hS⟩ hR'
set_option maxRecDepth 20000 in
theorem lwd_29 : ∀ e ∈ ([(1021, .aload_n 1, 1), (1022, .aload_n 0, 1), (1023, .iload_n 3, 1), (1024, .iconst 1, 1), (1025, .iadd, 1), (1026, .iaload, 1), (1027, .aload_n 0, 1), (1028, .iload_n 3, 1), (1029, .iconst 2, 1), (1030, .iadd, 1), (1031, .iaload, 1), (1032, .invokevirtual 137, 3), (1035, .aload_n 2, 1), (1036, .aload_n 0, 1), (1037, .iload_n 3, 1), (1038, .iconst 1, 1), (1039, .iadd, 1), (1040, .iaload, 1), (1041, .aload_n 0, 1), (1042, .iload_n 3, 1), (1043, .iconst 2, 1), (1044, .iadd, 1), (1045, .iaload, 1), (1046, .invokevirtual 140, 3), (1049, .if_icmp .eq 123, 3), (1052, .iconst 0, 1), (1053, .ireturn, 1)] : List (Nat × Instr × Nat)), decode code e.1 = .ok (e.2.1, e.2.2) := by decide +kernel
set_option maxHeartbeats 2000000 in
theorem lc_29 {D : va_G} {τ : ClassId × ClassId × ClassId × ClassId} {a1 a2 : Nat → Nat} {Rl : Nat → gMem → gMem → Prop} {i k : Nat} (C0 : lw_At p s m meth c b L xs) (hL : L ≤ 2560) (F : LF D τ a1 a2 s) (hl : lv_has ls 4 [(0, .ref b), (1, .ref (a1 177)), (2, .ref (a2 0)), (3, .int (nI i))]) (hi : i + 4 < L) (hk : k < 512) (hcs : cells ≤ 600000 ∧ slots ≤ 7302250) (ok : oK Rl mX9_log mX10_log [.int (xs (i + 1)), .int (xs (i + 2))])
    (kk : ∀ (H : Heap) (locs : List Loc) (μ ν : gMem), LW D τ a1 a2 s μ ν H locs → Rl (k + 1) μ ν → W p l e room_1 s m #[Value.ref b] below meth c H locs cells slots Q (F0 m 1172 ls [])) (H : Heap) (locs : List Loc) (μ ν : gMem) (hW : LW D τ a1 a2 s μ ν H locs) (hR : Rl k μ ν) : W p l e room_1 s m #[Value.ref b] below meth c H locs cells slots Q (F0 m 1021 ls []) := by
  have d1021 : decode code 1021 = .ok (.aload_n 1, 1) := lwd_29 (1021, .aload_n 1, 1) (List.mem_of_getElem? (i := 0) rfl)
  have d1022 : decode code 1022 = .ok (.aload_n 0, 1) := lwd_29 (1022, .aload_n 0, 1) (List.mem_of_getElem? (i := 1) rfl)
  have d1023 : decode code 1023 = .ok (.iload_n 3, 1) := lwd_29 (1023, .iload_n 3, 1) (List.mem_of_getElem? (i := 2) rfl)
  have d1024 : decode code 1024 = .ok (.iconst 1, 1) := lwd_29 (1024, .iconst 1, 1) (List.mem_of_getElem? (i := 3) rfl)
  have d1025 : decode code 1025 = .ok (.iadd, 1) := lwd_29 (1025, .iadd, 1) (List.mem_of_getElem? (i := 4) rfl)
  have d1026 : decode code 1026 = .ok (.iaload, 1) := lwd_29 (1026, .iaload, 1) (List.mem_of_getElem? (i := 5) rfl)
  have d1027 : decode code 1027 = .ok (.aload_n 0, 1) := lwd_29 (1027, .aload_n 0, 1) (List.mem_of_getElem? (i := 6) rfl)
  have d1028 : decode code 1028 = .ok (.iload_n 3, 1) := lwd_29 (1028, .iload_n 3, 1) (List.mem_of_getElem? (i := 7) rfl)
  have d1029 : decode code 1029 = .ok (.iconst 2, 1) := lwd_29 (1029, .iconst 2, 1) (List.mem_of_getElem? (i := 8) rfl)
  have d1030 : decode code 1030 = .ok (.iadd, 1) := lwd_29 (1030, .iadd, 1) (List.mem_of_getElem? (i := 9) rfl)
  have d1031 : decode code 1031 = .ok (.iaload, 1) := lwd_29 (1031, .iaload, 1) (List.mem_of_getElem? (i := 10) rfl)
  have d1032 : decode code 1032 = .ok (.invokevirtual 137, 3) := lwd_29 (1032, .invokevirtual 137, 3) (List.mem_of_getElem? (i := 11) rfl)
  have d1035 : decode code 1035 = .ok (.aload_n 2, 1) := lwd_29 (1035, .aload_n 2, 1) (List.mem_of_getElem? (i := 12) rfl)
  have d1036 : decode code 1036 = .ok (.aload_n 0, 1) := lwd_29 (1036, .aload_n 0, 1) (List.mem_of_getElem? (i := 13) rfl)
  have d1037 : decode code 1037 = .ok (.iload_n 3, 1) := lwd_29 (1037, .iload_n 3, 1) (List.mem_of_getElem? (i := 14) rfl)
  have d1038 : decode code 1038 = .ok (.iconst 1, 1) := lwd_29 (1038, .iconst 1, 1) (List.mem_of_getElem? (i := 15) rfl)
  have d1039 : decode code 1039 = .ok (.iadd, 1) := lwd_29 (1039, .iadd, 1) (List.mem_of_getElem? (i := 16) rfl)
  have d1040 : decode code 1040 = .ok (.iaload, 1) := lwd_29 (1040, .iaload, 1) (List.mem_of_getElem? (i := 17) rfl)
  have d1041 : decode code 1041 = .ok (.aload_n 0, 1) := lwd_29 (1041, .aload_n 0, 1) (List.mem_of_getElem? (i := 18) rfl)
  have d1042 : decode code 1042 = .ok (.iload_n 3, 1) := lwd_29 (1042, .iload_n 3, 1) (List.mem_of_getElem? (i := 19) rfl)
  have d1043 : decode code 1043 = .ok (.iconst 2, 1) := lwd_29 (1043, .iconst 2, 1) (List.mem_of_getElem? (i := 20) rfl)
  have d1044 : decode code 1044 = .ok (.iadd, 1) := lwd_29 (1044, .iadd, 1) (List.mem_of_getElem? (i := 21) rfl)
  have d1045 : decode code 1045 = .ok (.iaload, 1) := lwd_29 (1045, .iaload, 1) (List.mem_of_getElem? (i := 22) rfl)
  have d1046 : decode code 1046 = .ok (.invokevirtual 140, 3) := lwd_29 (1046, .invokevirtual 140, 3) (List.mem_of_getElem? (i := 23) rfl)
  have d1049 : decode code 1049 = .ok (.if_icmp .eq 123, 3) := lwd_29 (1049, .if_icmp .eq 123, 3) (List.mem_of_getElem? (i := 24) rfl)
  have d1052 : decode code 1052 = .ok (.iconst 0, 1) := lwd_29 (1052, .iconst 0, 1) (List.mem_of_getElem? (i := 25) rfl)
  have d1053 : decode code 1053 = .ok (.ireturn, 1) := lwd_29 (1053, .ireturn, 1) (List.mem_of_getElem? (i := 26) rfl)
  obtain ⟨hx, hb, hr, hml, hown, hts, hX, hbl, hlocks, hgv⟩ := id C0
  obtain ⟨hK, hI1, hI2, hZ1, hZ2, hA1, hA2, hdis⟩ := F
  obtain ⟨hP1, hP2, hS⟩ := hW
  obtain ⟨x, μ', ν', e1, e2, hR'⟩ := ok k μ ν hk hR
  refine lv_aload_n hx hb d1021 rfl (lv_at hl 1 rfl) ?_
  refine l_arg (d := 1) C0 hS hl d1022 d1023 d1024 d1025 d1026 rfl (by omega) hL ?_
  refine l_arg (d := 2) C0 hS hl d1027 d1028 d1029 d1030 d1031 rfl (by omega) hL ?_
  refine l_callV (n := 2) (w := (D, τ, LC, a1)) (c0 := 177) (as := [.int (xs (i + 1)), .int (xs (i + 2))]) (rest := []) (M' := MX9_log) (ci := 0) (C := RX9) (T := TX9) (N := 5) (A0 := fun _ => True) hx hb hml hown hts hl.1 d1032 (tX9_log l D τ a1 _ _ _ e1) rfl rfl q1156 q1157 q1158 q141 q1159 (by decide +kernel) (by decide) rfl (Nat.le_of_ble_eq_true rfl) hcs hP1 hK hI1 hZ1 (by rintro q ⟨c, hc, rfl⟩; exact hA1 c hc) hS (by intro v hv; simp at hv; try (rcases hv with rfl | rfl | rfl | rfl <;> rfl); try (rcases hv with rfl | rfl | rfl <;> rfl); try (rcases hv with rfl | rfl <;> rfl); try (subst hv; rfl)) (by intro q hq; cases hq; rfl) (fun H1 locs1 hQ1 hS hkeep => ?_)
  have hP2 : va_P D gcl (gW (D, τ, LM, a2) ν) H1 := hP2.kept (fun k9 q9 h9 => by
    have hlt := (hP2 k9 q9 h9).lt
    refine hkeep _ hlt ?_
    rintro ⟨c, hc, he⟩
    have h8 : k9 < 17 := by have := (List.getElem?_eq_some_iff.mp h9).1; rw [gW_len] at this; exact this
    rw [gW_get (w := (D, τ, LM, a2)) h8] at h9
    cases h9
    exact hdis c k9 hc h8 he.symm)
  refine lv_aload_n hx hb d1035 rfl (lv_at hl 2 rfl) ?_
  refine l_arg (d := 1) C0 hS hl d1036 d1037 d1038 d1039 d1040 rfl (by omega) hL ?_
  refine l_arg (d := 2) C0 hS hl d1041 d1042 d1043 d1044 d1045 rfl (by omega) hL ?_
  refine l_callV (n := 2) (w := (D, τ, LM, a2)) (c0 := 0) (as := [.int (xs (i + 1)), .int (xs (i + 2))]) (rest := [.int x]) (M' := MX10_log) (ci := 9) (C := RX10) (T := TX10) (N := 30) (A0 := fun _ => True) hx hb hml hown hts hl.1 d1046 (tX10_log l D τ a2 _ _ _ e2) rfl rfl q1777 q1778 q1779 q150 q1780 (by decide +kernel) (by decide) rfl (Nat.le_of_ble_eq_true rfl) hcs hP2 hK hI2 hZ2 (by rintro q ⟨c, hc, rfl⟩; exact hA2 c hc) hS (by intro v hv; simp at hv; try (rcases hv with rfl | rfl | rfl | rfl <;> rfl); try (rcases hv with rfl | rfl | rfl <;> rfl); try (rcases hv with rfl | rfl <;> rfl); try (subst hv; rfl)) (by intro q hq; cases hq; rfl) (fun H2 locs2 hQ2 hS hkeep2 => ?_)
  have hQ1 : va_P D gcl (gW (D, τ, LC, a1) μ') H2 := hQ1.kept (fun k9 q9 h9 => by
    have hlt := (hQ1 k9 q9 h9).lt
    refine hkeep2 _ hlt ?_
    rintro ⟨c, hc, he⟩
    have h8 : k9 < 182 := by have := (List.getElem?_eq_some_iff.mp h9).1; rw [gW_len] at this; exact this
    rw [gW_get (w := (D, τ, LC, a1)) h8] at h9
    cases h9
    exact hdis k9 c h8 hc he)
  refine lv_icmp_eq (tgt := 1172) hx hb d1049 (by decide) (fun _ => ?_) (fun hc => absurd rfl hc)
  exact kk _ _ μ' ν' ⟨hQ1, hQ2, hS⟩ hR'
set_option maxRecDepth 20000 in
theorem lwd_30 : ∀ e ∈ ([(1054, .aload_n 1, 1), (1055, .aload_n 0, 1), (1056, .iload_n 3, 1), (1057, .iconst 1, 1), (1058, .iadd, 1), (1059, .iaload, 1), (1060, .aload_n 0, 1), (1061, .iload_n 3, 1), (1062, .iconst 2, 1), (1063, .iadd, 1), (1064, .iaload, 1), (1065, .invokevirtual 141, 3), (1068, .aload_n 2, 1), (1069, .aload_n 0, 1), (1070, .iload_n 3, 1), (1071, .iconst 1, 1), (1072, .iadd, 1), (1073, .iaload, 1), (1074, .aload_n 0, 1), (1075, .iload_n 3, 1), (1076, .iconst 2, 1), (1077, .iadd, 1), (1078, .iaload, 1), (1079, .invokevirtual 144, 3), (1082, .if_icmp .eq 90, 3), (1085, .iconst 0, 1), (1086, .ireturn, 1)] : List (Nat × Instr × Nat)), decode code e.1 = .ok (e.2.1, e.2.2) := by decide +kernel
set_option maxHeartbeats 2000000 in
theorem lc_30 {D : va_G} {τ : ClassId × ClassId × ClassId × ClassId} {a1 a2 : Nat → Nat} {Rl : Nat → gMem → gMem → Prop} {i k : Nat} (C0 : lw_At p s m meth c b L xs) (hL : L ≤ 2560) (F : LF D τ a1 a2 s) (hl : lv_has ls 4 [(0, .ref b), (1, .ref (a1 177)), (2, .ref (a2 0)), (3, .int (nI i))]) (hi : i + 4 < L) (hk : k < 512) (hcs : cells ≤ 600000 ∧ slots ≤ 7302250) (ok : oK Rl mX9_went mX10_went [.int (xs (i + 1)), .int (xs (i + 2))])
    (kk : ∀ (H : Heap) (locs : List Loc) (μ ν : gMem), LW D τ a1 a2 s μ ν H locs → Rl (k + 1) μ ν → W p l e room_1 s m #[Value.ref b] below meth c H locs cells slots Q (F0 m 1172 ls [])) (H : Heap) (locs : List Loc) (μ ν : gMem) (hW : LW D τ a1 a2 s μ ν H locs) (hR : Rl k μ ν) : W p l e room_1 s m #[Value.ref b] below meth c H locs cells slots Q (F0 m 1054 ls []) := by
  have d1054 : decode code 1054 = .ok (.aload_n 1, 1) := lwd_30 (1054, .aload_n 1, 1) (List.mem_of_getElem? (i := 0) rfl)
  have d1055 : decode code 1055 = .ok (.aload_n 0, 1) := lwd_30 (1055, .aload_n 0, 1) (List.mem_of_getElem? (i := 1) rfl)
  have d1056 : decode code 1056 = .ok (.iload_n 3, 1) := lwd_30 (1056, .iload_n 3, 1) (List.mem_of_getElem? (i := 2) rfl)
  have d1057 : decode code 1057 = .ok (.iconst 1, 1) := lwd_30 (1057, .iconst 1, 1) (List.mem_of_getElem? (i := 3) rfl)
  have d1058 : decode code 1058 = .ok (.iadd, 1) := lwd_30 (1058, .iadd, 1) (List.mem_of_getElem? (i := 4) rfl)
  have d1059 : decode code 1059 = .ok (.iaload, 1) := lwd_30 (1059, .iaload, 1) (List.mem_of_getElem? (i := 5) rfl)
  have d1060 : decode code 1060 = .ok (.aload_n 0, 1) := lwd_30 (1060, .aload_n 0, 1) (List.mem_of_getElem? (i := 6) rfl)
  have d1061 : decode code 1061 = .ok (.iload_n 3, 1) := lwd_30 (1061, .iload_n 3, 1) (List.mem_of_getElem? (i := 7) rfl)
  have d1062 : decode code 1062 = .ok (.iconst 2, 1) := lwd_30 (1062, .iconst 2, 1) (List.mem_of_getElem? (i := 8) rfl)
  have d1063 : decode code 1063 = .ok (.iadd, 1) := lwd_30 (1063, .iadd, 1) (List.mem_of_getElem? (i := 9) rfl)
  have d1064 : decode code 1064 = .ok (.iaload, 1) := lwd_30 (1064, .iaload, 1) (List.mem_of_getElem? (i := 10) rfl)
  have d1065 : decode code 1065 = .ok (.invokevirtual 141, 3) := lwd_30 (1065, .invokevirtual 141, 3) (List.mem_of_getElem? (i := 11) rfl)
  have d1068 : decode code 1068 = .ok (.aload_n 2, 1) := lwd_30 (1068, .aload_n 2, 1) (List.mem_of_getElem? (i := 12) rfl)
  have d1069 : decode code 1069 = .ok (.aload_n 0, 1) := lwd_30 (1069, .aload_n 0, 1) (List.mem_of_getElem? (i := 13) rfl)
  have d1070 : decode code 1070 = .ok (.iload_n 3, 1) := lwd_30 (1070, .iload_n 3, 1) (List.mem_of_getElem? (i := 14) rfl)
  have d1071 : decode code 1071 = .ok (.iconst 1, 1) := lwd_30 (1071, .iconst 1, 1) (List.mem_of_getElem? (i := 15) rfl)
  have d1072 : decode code 1072 = .ok (.iadd, 1) := lwd_30 (1072, .iadd, 1) (List.mem_of_getElem? (i := 16) rfl)
  have d1073 : decode code 1073 = .ok (.iaload, 1) := lwd_30 (1073, .iaload, 1) (List.mem_of_getElem? (i := 17) rfl)
  have d1074 : decode code 1074 = .ok (.aload_n 0, 1) := lwd_30 (1074, .aload_n 0, 1) (List.mem_of_getElem? (i := 18) rfl)
  have d1075 : decode code 1075 = .ok (.iload_n 3, 1) := lwd_30 (1075, .iload_n 3, 1) (List.mem_of_getElem? (i := 19) rfl)
  have d1076 : decode code 1076 = .ok (.iconst 2, 1) := lwd_30 (1076, .iconst 2, 1) (List.mem_of_getElem? (i := 20) rfl)
  have d1077 : decode code 1077 = .ok (.iadd, 1) := lwd_30 (1077, .iadd, 1) (List.mem_of_getElem? (i := 21) rfl)
  have d1078 : decode code 1078 = .ok (.iaload, 1) := lwd_30 (1078, .iaload, 1) (List.mem_of_getElem? (i := 22) rfl)
  have d1079 : decode code 1079 = .ok (.invokevirtual 144, 3) := lwd_30 (1079, .invokevirtual 144, 3) (List.mem_of_getElem? (i := 23) rfl)
  have d1082 : decode code 1082 = .ok (.if_icmp .eq 90, 3) := lwd_30 (1082, .if_icmp .eq 90, 3) (List.mem_of_getElem? (i := 24) rfl)
  have d1085 : decode code 1085 = .ok (.iconst 0, 1) := lwd_30 (1085, .iconst 0, 1) (List.mem_of_getElem? (i := 25) rfl)
  have d1086 : decode code 1086 = .ok (.ireturn, 1) := lwd_30 (1086, .ireturn, 1) (List.mem_of_getElem? (i := 26) rfl)
  obtain ⟨hx, hb, hr, hml, hown, hts, hX, hbl, hlocks, hgv⟩ := id C0
  obtain ⟨hK, hI1, hI2, hZ1, hZ2, hA1, hA2, hdis⟩ := F
  obtain ⟨hP1, hP2, hS⟩ := hW
  obtain ⟨x, μ', ν', e1, e2, hR'⟩ := ok k μ ν hk hR
  refine lv_aload_n hx hb d1054 rfl (lv_at hl 1 rfl) ?_
  refine l_arg (d := 1) C0 hS hl d1055 d1056 d1057 d1058 d1059 rfl (by omega) hL ?_
  refine l_arg (d := 2) C0 hS hl d1060 d1061 d1062 d1063 d1064 rfl (by omega) hL ?_
  refine l_callV (n := 2) (w := (D, τ, LC, a1)) (c0 := 177) (as := [.int (xs (i + 1)), .int (xs (i + 2))]) (rest := []) (M' := MX9_went) (ci := 0) (C := RX9) (T := TX9) (N := 5) (A0 := fun _ => True) hx hb hml hown hts hl.1 d1065 (tX9_went l D τ a1 _ _ _ e1) rfl rfl q1165 q1166 q1167 q141 q1168 (by decide +kernel) (by decide) rfl (Nat.le_of_ble_eq_true rfl) hcs hP1 hK hI1 hZ1 (by rintro q ⟨c, hc, rfl⟩; exact hA1 c hc) hS (by intro v hv; simp at hv; try (rcases hv with rfl | rfl | rfl | rfl <;> rfl); try (rcases hv with rfl | rfl | rfl <;> rfl); try (rcases hv with rfl | rfl <;> rfl); try (subst hv; rfl)) (by intro q hq; cases hq; rfl) (fun H1 locs1 hQ1 hS hkeep => ?_)
  have hP2 : va_P D gcl (gW (D, τ, LM, a2) ν) H1 := hP2.kept (fun k9 q9 h9 => by
    have hlt := (hP2 k9 q9 h9).lt
    refine hkeep _ hlt ?_
    rintro ⟨c, hc, he⟩
    have h8 : k9 < 17 := by have := (List.getElem?_eq_some_iff.mp h9).1; rw [gW_len] at this; exact this
    rw [gW_get (w := (D, τ, LM, a2)) h8] at h9
    cases h9
    exact hdis c k9 hc h8 he.symm)
  refine lv_aload_n hx hb d1068 rfl (lv_at hl 2 rfl) ?_
  refine l_arg (d := 1) C0 hS hl d1069 d1070 d1071 d1072 d1073 rfl (by omega) hL ?_
  refine l_arg (d := 2) C0 hS hl d1074 d1075 d1076 d1077 d1078 rfl (by omega) hL ?_
  refine l_callV (n := 2) (w := (D, τ, LM, a2)) (c0 := 0) (as := [.int (xs (i + 1)), .int (xs (i + 2))]) (rest := [.int x]) (M' := MX10_went) (ci := 9) (C := RX10) (T := TX10) (N := 30) (A0 := fun _ => True) hx hb hml hown hts hl.1 d1079 (tX10_went l D τ a2 _ _ _ e2) rfl rfl q1785 q1786 q1787 q150 q1788 (by decide +kernel) (by decide) rfl (Nat.le_of_ble_eq_true rfl) hcs hP2 hK hI2 hZ2 (by rintro q ⟨c, hc, rfl⟩; exact hA2 c hc) hS (by intro v hv; simp at hv; try (rcases hv with rfl | rfl | rfl | rfl <;> rfl); try (rcases hv with rfl | rfl | rfl <;> rfl); try (rcases hv with rfl | rfl <;> rfl); try (subst hv; rfl)) (by intro q hq; cases hq; rfl) (fun H2 locs2 hQ2 hS hkeep2 => ?_)
  have hQ1 : va_P D gcl (gW (D, τ, LC, a1) μ') H2 := hQ1.kept (fun k9 q9 h9 => by
    have hlt := (hQ1 k9 q9 h9).lt
    refine hkeep2 _ hlt ?_
    rintro ⟨c, hc, he⟩
    have h8 : k9 < 182 := by have := (List.getElem?_eq_some_iff.mp h9).1; rw [gW_len] at this; exact this
    rw [gW_get (w := (D, τ, LC, a1)) h8] at h9
    cases h9
    exact hdis k9 c h8 hc he)
  refine lv_icmp_eq (tgt := 1172) hx hb d1082 (by decide) (fun _ => ?_) (fun hc => absurd rfl hc)
  exact kk _ _ μ' ν' ⟨hQ1, hQ2, hS⟩ hR'
set_option maxRecDepth 20000 in
theorem lwd_31 : ∀ e ∈ ([(1087, .aload_n 1, 1), (1088, .aload_n 0, 1), (1089, .iload_n 3, 1), (1090, .iconst 1, 1), (1091, .iadd, 1), (1092, .iaload, 1), (1093, .invokevirtual 145, 3), (1096, .aload_n 2, 1), (1097, .aload_n 0, 1), (1098, .iload_n 3, 1), (1099, .iconst 1, 1), (1100, .iadd, 1), (1101, .iaload, 1), (1102, .invokevirtual 148, 3), (1105, .if_icmp .eq 67, 3), (1108, .iconst 0, 1), (1109, .ireturn, 1)] : List (Nat × Instr × Nat)), decode code e.1 = .ok (e.2.1, e.2.2) := by decide +kernel
set_option maxHeartbeats 2000000 in
theorem lc_31 {D : va_G} {τ : ClassId × ClassId × ClassId × ClassId} {a1 a2 : Nat → Nat} {Rl : Nat → gMem → gMem → Prop} {i k : Nat} (C0 : lw_At p s m meth c b L xs) (hL : L ≤ 2560) (F : LF D τ a1 a2 s) (hl : lv_has ls 4 [(0, .ref b), (1, .ref (a1 177)), (2, .ref (a2 0)), (3, .int (nI i))]) (hi : i + 4 < L) (hk : k < 512) (hcs : cells ≤ 600000 ∧ slots ≤ 7302250) (ok : oK Rl mX9_count mX10_count [.int (xs (i + 1))])
    (kk : ∀ (H : Heap) (locs : List Loc) (μ ν : gMem), LW D τ a1 a2 s μ ν H locs → Rl (k + 1) μ ν → W p l e room_1 s m #[Value.ref b] below meth c H locs cells slots Q (F0 m 1172 ls [])) (H : Heap) (locs : List Loc) (μ ν : gMem) (hW : LW D τ a1 a2 s μ ν H locs) (hR : Rl k μ ν) : W p l e room_1 s m #[Value.ref b] below meth c H locs cells slots Q (F0 m 1087 ls []) := by
  have d1087 : decode code 1087 = .ok (.aload_n 1, 1) := lwd_31 (1087, .aload_n 1, 1) (List.mem_of_getElem? (i := 0) rfl)
  have d1088 : decode code 1088 = .ok (.aload_n 0, 1) := lwd_31 (1088, .aload_n 0, 1) (List.mem_of_getElem? (i := 1) rfl)
  have d1089 : decode code 1089 = .ok (.iload_n 3, 1) := lwd_31 (1089, .iload_n 3, 1) (List.mem_of_getElem? (i := 2) rfl)
  have d1090 : decode code 1090 = .ok (.iconst 1, 1) := lwd_31 (1090, .iconst 1, 1) (List.mem_of_getElem? (i := 3) rfl)
  have d1091 : decode code 1091 = .ok (.iadd, 1) := lwd_31 (1091, .iadd, 1) (List.mem_of_getElem? (i := 4) rfl)
  have d1092 : decode code 1092 = .ok (.iaload, 1) := lwd_31 (1092, .iaload, 1) (List.mem_of_getElem? (i := 5) rfl)
  have d1093 : decode code 1093 = .ok (.invokevirtual 145, 3) := lwd_31 (1093, .invokevirtual 145, 3) (List.mem_of_getElem? (i := 6) rfl)
  have d1096 : decode code 1096 = .ok (.aload_n 2, 1) := lwd_31 (1096, .aload_n 2, 1) (List.mem_of_getElem? (i := 7) rfl)
  have d1097 : decode code 1097 = .ok (.aload_n 0, 1) := lwd_31 (1097, .aload_n 0, 1) (List.mem_of_getElem? (i := 8) rfl)
  have d1098 : decode code 1098 = .ok (.iload_n 3, 1) := lwd_31 (1098, .iload_n 3, 1) (List.mem_of_getElem? (i := 9) rfl)
  have d1099 : decode code 1099 = .ok (.iconst 1, 1) := lwd_31 (1099, .iconst 1, 1) (List.mem_of_getElem? (i := 10) rfl)
  have d1100 : decode code 1100 = .ok (.iadd, 1) := lwd_31 (1100, .iadd, 1) (List.mem_of_getElem? (i := 11) rfl)
  have d1101 : decode code 1101 = .ok (.iaload, 1) := lwd_31 (1101, .iaload, 1) (List.mem_of_getElem? (i := 12) rfl)
  have d1102 : decode code 1102 = .ok (.invokevirtual 148, 3) := lwd_31 (1102, .invokevirtual 148, 3) (List.mem_of_getElem? (i := 13) rfl)
  have d1105 : decode code 1105 = .ok (.if_icmp .eq 67, 3) := lwd_31 (1105, .if_icmp .eq 67, 3) (List.mem_of_getElem? (i := 14) rfl)
  have d1108 : decode code 1108 = .ok (.iconst 0, 1) := lwd_31 (1108, .iconst 0, 1) (List.mem_of_getElem? (i := 15) rfl)
  have d1109 : decode code 1109 = .ok (.ireturn, 1) := lwd_31 (1109, .ireturn, 1) (List.mem_of_getElem? (i := 16) rfl)
  obtain ⟨hx, hb, hr, hml, hown, hts, hX, hbl, hlocks, hgv⟩ := id C0
  obtain ⟨hK, hI1, hI2, hZ1, hZ2, hA1, hA2, hdis⟩ := F
  obtain ⟨hP1, hP2, hS⟩ := hW
  obtain ⟨x, μ', ν', e1, e2, hR'⟩ := ok k μ ν hk hR
  refine lv_aload_n hx hb d1087 rfl (lv_at hl 1 rfl) ?_
  refine l_arg (d := 1) C0 hS hl d1088 d1089 d1090 d1091 d1092 rfl (by omega) hL ?_
  refine l_callV (n := 1) (w := (D, τ, LC, a1)) (c0 := 177) (as := [.int (xs (i + 1))]) (rest := []) (M' := MX9_count) (ci := 0) (C := RX9) (T := TX9) (N := 5) (A0 := fun _ => True) hx hb hml hown hts hl.1 d1093 (tX9_count l D τ a1 _ _ _ e1) rfl rfl q1169 q1170 q1171 q141 q1172 (by decide +kernel) (by decide) rfl (Nat.le_of_ble_eq_true rfl) hcs hP1 hK hI1 hZ1 (by rintro q ⟨c, hc, rfl⟩; exact hA1 c hc) hS (by intro v hv; simp at hv; try (rcases hv with rfl | rfl | rfl | rfl <;> rfl); try (rcases hv with rfl | rfl | rfl <;> rfl); try (rcases hv with rfl | rfl <;> rfl); try (subst hv; rfl)) (by intro q hq; cases hq; rfl) (fun H1 locs1 hQ1 hS hkeep => ?_)
  have hP2 : va_P D gcl (gW (D, τ, LM, a2) ν) H1 := hP2.kept (fun k9 q9 h9 => by
    have hlt := (hP2 k9 q9 h9).lt
    refine hkeep _ hlt ?_
    rintro ⟨c, hc, he⟩
    have h8 : k9 < 17 := by have := (List.getElem?_eq_some_iff.mp h9).1; rw [gW_len] at this; exact this
    rw [gW_get (w := (D, τ, LM, a2)) h8] at h9
    cases h9
    exact hdis c k9 hc h8 he.symm)
  refine lv_aload_n hx hb d1096 rfl (lv_at hl 2 rfl) ?_
  refine l_arg (d := 1) C0 hS hl d1097 d1098 d1099 d1100 d1101 rfl (by omega) hL ?_
  refine l_callV (n := 1) (w := (D, τ, LM, a2)) (c0 := 0) (as := [.int (xs (i + 1))]) (rest := [.int x]) (M' := MX10_count) (ci := 9) (C := RX10) (T := TX10) (N := 30) (A0 := fun _ => True) hx hb hml hown hts hl.1 d1102 (tX10_count l D τ a2 _ _ _ e2) rfl rfl q1789 q1790 q1791 q150 q1792 (by decide +kernel) (by decide) rfl (Nat.le_of_ble_eq_true rfl) hcs hP2 hK hI2 hZ2 (by rintro q ⟨c, hc, rfl⟩; exact hA2 c hc) hS (by intro v hv; simp at hv; try (rcases hv with rfl | rfl | rfl | rfl <;> rfl); try (rcases hv with rfl | rfl | rfl <;> rfl); try (rcases hv with rfl | rfl <;> rfl); try (subst hv; rfl)) (by intro q hq; cases hq; rfl) (fun H2 locs2 hQ2 hS hkeep2 => ?_)
  have hQ1 : va_P D gcl (gW (D, τ, LC, a1) μ') H2 := hQ1.kept (fun k9 q9 h9 => by
    have hlt := (hQ1 k9 q9 h9).lt
    refine hkeep2 _ hlt ?_
    rintro ⟨c, hc, he⟩
    have h8 : k9 < 182 := by have := (List.getElem?_eq_some_iff.mp h9).1; rw [gW_len] at this; exact this
    rw [gW_get (w := (D, τ, LC, a1)) h8] at h9
    cases h9
    exact hdis k9 c h8 hc he)
  refine lv_icmp_eq (tgt := 1172) hx hb d1105 (by decide) (fun _ => ?_) (fun hc => absurd rfl hc)
  exact kk _ _ μ' ν' ⟨hQ1, hQ2, hS⟩ hR'
set_option maxRecDepth 20000 in
theorem lwd_32 : ∀ e ∈ ([(1110, .aload_n 1, 1), (1111, .aload_n 0, 1), (1112, .iload_n 3, 1), (1113, .iconst 1, 1), (1114, .iadd, 1), (1115, .iaload, 1), (1116, .ifCond .eq 7, 3), (1119, .iconst 1, 1), (1120, .goto 4, 3), (1123, .iconst 0, 1), (1124, .invokevirtual 149, 3), (1127, .aload_n 2, 1), (1128, .aload_n 0, 1), (1129, .iload_n 3, 1), (1130, .iconst 1, 1), (1131, .iadd, 1), (1132, .iaload, 1), (1133, .ifCond .eq 7, 3), (1136, .iconst 1, 1), (1137, .goto 4, 3), (1140, .iconst 0, 1), (1141, .invokevirtual 153, 3), (1144, .if_icmp .eq 28, 3), (1147, .iconst 0, 1), (1148, .ireturn, 1)] : List (Nat × Instr × Nat)), decode code e.1 = .ok (e.2.1, e.2.2) := by decide +kernel
set_option maxHeartbeats 2000000 in
theorem lc_32 {D : va_G} {τ : ClassId × ClassId × ClassId × ClassId} {a1 a2 : Nat → Nat} {Rl : Nat → gMem → gMem → Prop} {i k : Nat} (C0 : lw_At p s m meth c b L xs) (hL : L ≤ 2560) (F : LF D τ a1 a2 s) (hl : lv_has ls 4 [(0, .ref b), (1, .ref (a1 177)), (2, .ref (a2 0)), (3, .int (nI i))]) (hi : i + 4 < L) (hk : k < 512) (hcs : cells ≤ 600000 ∧ slots ≤ 7302250) (ok : oK Rl mX9_image mX10_image [.int (if xs (i + 1) = 0 then 0 else 1)])
    (kk : ∀ (H : Heap) (locs : List Loc) (μ ν : gMem), LW D τ a1 a2 s μ ν H locs → Rl (k + 1) μ ν → W p l e room_1 s m #[Value.ref b] below meth c H locs cells slots Q (F0 m 1172 ls [])) (H : Heap) (locs : List Loc) (μ ν : gMem) (hW : LW D τ a1 a2 s μ ν H locs) (hR : Rl k μ ν) : W p l e room_1 s m #[Value.ref b] below meth c H locs cells slots Q (F0 m 1110 ls []) := by
  have d1110 : decode code 1110 = .ok (.aload_n 1, 1) := lwd_32 (1110, .aload_n 1, 1) (List.mem_of_getElem? (i := 0) rfl)
  have d1111 : decode code 1111 = .ok (.aload_n 0, 1) := lwd_32 (1111, .aload_n 0, 1) (List.mem_of_getElem? (i := 1) rfl)
  have d1112 : decode code 1112 = .ok (.iload_n 3, 1) := lwd_32 (1112, .iload_n 3, 1) (List.mem_of_getElem? (i := 2) rfl)
  have d1113 : decode code 1113 = .ok (.iconst 1, 1) := lwd_32 (1113, .iconst 1, 1) (List.mem_of_getElem? (i := 3) rfl)
  have d1114 : decode code 1114 = .ok (.iadd, 1) := lwd_32 (1114, .iadd, 1) (List.mem_of_getElem? (i := 4) rfl)
  have d1115 : decode code 1115 = .ok (.iaload, 1) := lwd_32 (1115, .iaload, 1) (List.mem_of_getElem? (i := 5) rfl)
  have d1116 : decode code 1116 = .ok (.ifCond .eq 7, 3) := lwd_32 (1116, .ifCond .eq 7, 3) (List.mem_of_getElem? (i := 6) rfl)
  have d1119 : decode code 1119 = .ok (.iconst 1, 1) := lwd_32 (1119, .iconst 1, 1) (List.mem_of_getElem? (i := 7) rfl)
  have d1120 : decode code 1120 = .ok (.goto 4, 3) := lwd_32 (1120, .goto 4, 3) (List.mem_of_getElem? (i := 8) rfl)
  have d1123 : decode code 1123 = .ok (.iconst 0, 1) := lwd_32 (1123, .iconst 0, 1) (List.mem_of_getElem? (i := 9) rfl)
  have d1124 : decode code 1124 = .ok (.invokevirtual 149, 3) := lwd_32 (1124, .invokevirtual 149, 3) (List.mem_of_getElem? (i := 10) rfl)
  have d1127 : decode code 1127 = .ok (.aload_n 2, 1) := lwd_32 (1127, .aload_n 2, 1) (List.mem_of_getElem? (i := 11) rfl)
  have d1128 : decode code 1128 = .ok (.aload_n 0, 1) := lwd_32 (1128, .aload_n 0, 1) (List.mem_of_getElem? (i := 12) rfl)
  have d1129 : decode code 1129 = .ok (.iload_n 3, 1) := lwd_32 (1129, .iload_n 3, 1) (List.mem_of_getElem? (i := 13) rfl)
  have d1130 : decode code 1130 = .ok (.iconst 1, 1) := lwd_32 (1130, .iconst 1, 1) (List.mem_of_getElem? (i := 14) rfl)
  have d1131 : decode code 1131 = .ok (.iadd, 1) := lwd_32 (1131, .iadd, 1) (List.mem_of_getElem? (i := 15) rfl)
  have d1132 : decode code 1132 = .ok (.iaload, 1) := lwd_32 (1132, .iaload, 1) (List.mem_of_getElem? (i := 16) rfl)
  have d1133 : decode code 1133 = .ok (.ifCond .eq 7, 3) := lwd_32 (1133, .ifCond .eq 7, 3) (List.mem_of_getElem? (i := 17) rfl)
  have d1136 : decode code 1136 = .ok (.iconst 1, 1) := lwd_32 (1136, .iconst 1, 1) (List.mem_of_getElem? (i := 18) rfl)
  have d1137 : decode code 1137 = .ok (.goto 4, 3) := lwd_32 (1137, .goto 4, 3) (List.mem_of_getElem? (i := 19) rfl)
  have d1140 : decode code 1140 = .ok (.iconst 0, 1) := lwd_32 (1140, .iconst 0, 1) (List.mem_of_getElem? (i := 20) rfl)
  have d1141 : decode code 1141 = .ok (.invokevirtual 153, 3) := lwd_32 (1141, .invokevirtual 153, 3) (List.mem_of_getElem? (i := 21) rfl)
  have d1144 : decode code 1144 = .ok (.if_icmp .eq 28, 3) := lwd_32 (1144, .if_icmp .eq 28, 3) (List.mem_of_getElem? (i := 22) rfl)
  have d1147 : decode code 1147 = .ok (.iconst 0, 1) := lwd_32 (1147, .iconst 0, 1) (List.mem_of_getElem? (i := 23) rfl)
  have d1148 : decode code 1148 = .ok (.ireturn, 1) := lwd_32 (1148, .ireturn, 1) (List.mem_of_getElem? (i := 24) rfl)
  obtain ⟨hx, hb, hr, hml, hown, hts, hX, hbl, hlocks, hgv⟩ := id C0
  obtain ⟨hK, hI1, hI2, hZ1, hZ2, hA1, hA2, hdis⟩ := F
  obtain ⟨hP1, hP2, hS⟩ := hW
  obtain ⟨x, μ', ν', e1, e2, hR'⟩ := ok k μ ν hk hR
  refine lv_aload_n hx hb d1110 rfl (lv_at hl 1 rfl) ?_
  refine l_arg (d := 1) C0 hS hl d1111 d1112 d1113 d1114 d1115 rfl (by omega) hL ?_
  have hz : ∀ (H9 : Heap) (locs9 : List Loc) (rest9 : List Value), W p l e room_1 s m #[Value.ref b] below meth c H9 locs9 cells slots Q (F0 m 1124 ls (.int (if xs (i + 1) = 0 then 0 else 1) :: rest9)) → W p l e room_1 s m #[Value.ref b] below meth c H9 locs9 cells slots Q (F0 m 1116 ls (.int (xs (i + 1)) :: rest9)) := by
    intro H9 locs9 rest9 h9
    refine lv_if_eq (tgt := 1123) hx hb d1116 (by decide) (fun hc => ?_) (fun hc => ?_)
    · refine lv_iconst (v := 0) hx hb d1123 (by decide) ?_
      rw [if_pos hc] at h9; exact h9
    · refine lv_iconst (v := 1) hx hb d1119 (by decide) ?_
      refine lv_goto (tgt := 1124) hx hb d1120 (by decide) ?_
      rw [if_neg hc] at h9; exact h9
  refine hz _ _ _ ?_
  refine l_callV (n := 1) (w := (D, τ, LC, a1)) (c0 := 177) (as := [.int (if xs (i + 1) = 0 then 0 else 1)]) (rest := []) (M' := MX9_image) (ci := 0) (C := RX9) (T := TX9) (N := 5) (A0 := fun _ => True) hx hb hml hown hts hl.1 d1124 (tX9_image l D τ a1 _ _ _ e1) rfl rfl q1173 q1174 q1175 q141 q1176 (by decide +kernel) (by decide) rfl (Nat.le_of_ble_eq_true rfl) hcs hP1 hK hI1 hZ1 (by rintro q ⟨c, hc, rfl⟩; exact hA1 c hc) hS (by intro v hv; simp at hv; try (rcases hv with rfl | rfl | rfl | rfl <;> rfl); try (rcases hv with rfl | rfl | rfl <;> rfl); try (rcases hv with rfl | rfl <;> rfl); try (subst hv; rfl)) (by intro q hq; cases hq; rfl) (fun H1 locs1 hQ1 hS hkeep => ?_)
  have hP2 : va_P D gcl (gW (D, τ, LM, a2) ν) H1 := hP2.kept (fun k9 q9 h9 => by
    have hlt := (hP2 k9 q9 h9).lt
    refine hkeep _ hlt ?_
    rintro ⟨c, hc, he⟩
    have h8 : k9 < 17 := by have := (List.getElem?_eq_some_iff.mp h9).1; rw [gW_len] at this; exact this
    rw [gW_get (w := (D, τ, LM, a2)) h8] at h9
    cases h9
    exact hdis c k9 hc h8 he.symm)
  refine lv_aload_n hx hb d1127 rfl (lv_at hl 2 rfl) ?_
  refine l_arg (d := 1) C0 hS hl d1128 d1129 d1130 d1131 d1132 rfl (by omega) hL ?_
  have hz : ∀ (H9 : Heap) (locs9 : List Loc) (rest9 : List Value), W p l e room_1 s m #[Value.ref b] below meth c H9 locs9 cells slots Q (F0 m 1141 ls (.int (if xs (i + 1) = 0 then 0 else 1) :: rest9)) → W p l e room_1 s m #[Value.ref b] below meth c H9 locs9 cells slots Q (F0 m 1133 ls (.int (xs (i + 1)) :: rest9)) := by
    intro H9 locs9 rest9 h9
    refine lv_if_eq (tgt := 1140) hx hb d1133 (by decide) (fun hc => ?_) (fun hc => ?_)
    · refine lv_iconst (v := 0) hx hb d1140 (by decide) ?_
      rw [if_pos hc] at h9; exact h9
    · refine lv_iconst (v := 1) hx hb d1136 (by decide) ?_
      refine lv_goto (tgt := 1141) hx hb d1137 (by decide) ?_
      rw [if_neg hc] at h9; exact h9
  refine hz _ _ _ ?_
  refine l_callV (n := 1) (w := (D, τ, LM, a2)) (c0 := 0) (as := [.int (if xs (i + 1) = 0 then 0 else 1)]) (rest := [.int x]) (M' := MX10_image) (ci := 9) (C := RX10) (T := TX10) (N := 30) (A0 := fun _ => True) hx hb hml hown hts hl.1 d1141 (tX10_image l D τ a2 _ _ _ e2) rfl rfl q1801 q1802 q1803 q150 q1804 (by decide +kernel) (by decide) rfl (Nat.le_of_ble_eq_true rfl) hcs hP2 hK hI2 hZ2 (by rintro q ⟨c, hc, rfl⟩; exact hA2 c hc) hS (by intro v hv; simp at hv; try (rcases hv with rfl | rfl | rfl | rfl <;> rfl); try (rcases hv with rfl | rfl | rfl <;> rfl); try (rcases hv with rfl | rfl <;> rfl); try (subst hv; rfl)) (by intro q hq; cases hq; rfl) (fun H2 locs2 hQ2 hS hkeep2 => ?_)
  have hQ1 : va_P D gcl (gW (D, τ, LC, a1) μ') H2 := hQ1.kept (fun k9 q9 h9 => by
    have hlt := (hQ1 k9 q9 h9).lt
    refine hkeep2 _ hlt ?_
    rintro ⟨c, hc, he⟩
    have h8 : k9 < 182 := by have := (List.getElem?_eq_some_iff.mp h9).1; rw [gW_len] at this; exact this
    rw [gW_get (w := (D, τ, LC, a1)) h8] at h9
    cases h9
    exact hdis k9 c h8 hc he)
  refine lv_icmp_eq (tgt := 1172) hx hb d1144 (by decide) (fun _ => ?_) (fun hc => absurd rfl hc)
  exact kk _ _ μ' ν' ⟨hQ1, hQ2, hS⟩ hR'
set_option maxRecDepth 20000 in
theorem lwd_33 : ∀ e ∈ ([(1149, .aload_n 1, 1), (1150, .aload_n 0, 1), (1151, .iload_n 3, 1), (1152, .iconst 1, 1), (1153, .iadd, 1), (1154, .iaload, 1), (1155, .invokevirtual 154, 3), (1158, .aload_n 2, 1), (1159, .aload_n 0, 1), (1160, .iload_n 3, 1), (1161, .iconst 1, 1), (1162, .iadd, 1), (1163, .iaload, 1), (1164, .invokevirtual 157, 3), (1167, .if_icmp .eq 5, 3), (1170, .iconst 0, 1), (1171, .ireturn, 1)] : List (Nat × Instr × Nat)), decode code e.1 = .ok (e.2.1, e.2.2) := by decide +kernel
set_option maxHeartbeats 2000000 in
theorem lc_33 {D : va_G} {τ : ClassId × ClassId × ClassId × ClassId} {a1 a2 : Nat → Nat} {Rl : Nat → gMem → gMem → Prop} {i k : Nat} (C0 : lw_At p s m meth c b L xs) (hL : L ≤ 2560) (F : LF D τ a1 a2 s) (hl : lv_has ls 4 [(0, .ref b), (1, .ref (a1 177)), (2, .ref (a2 0)), (3, .int (nI i))]) (hi : i + 4 < L) (hk : k < 512) (hcs : cells ≤ 600000 ∧ slots ≤ 7302250) (ok : oK Rl mX9_look mX10_look [.int (xs (i + 1))])
    (kk : ∀ (H : Heap) (locs : List Loc) (μ ν : gMem), LW D τ a1 a2 s μ ν H locs → Rl (k + 1) μ ν → W p l e room_1 s m #[Value.ref b] below meth c H locs cells slots Q (F0 m 1172 ls [])) (H : Heap) (locs : List Loc) (μ ν : gMem) (hW : LW D τ a1 a2 s μ ν H locs) (hR : Rl k μ ν) : W p l e room_1 s m #[Value.ref b] below meth c H locs cells slots Q (F0 m 1149 ls []) := by
  have d1149 : decode code 1149 = .ok (.aload_n 1, 1) := lwd_33 (1149, .aload_n 1, 1) (List.mem_of_getElem? (i := 0) rfl)
  have d1150 : decode code 1150 = .ok (.aload_n 0, 1) := lwd_33 (1150, .aload_n 0, 1) (List.mem_of_getElem? (i := 1) rfl)
  have d1151 : decode code 1151 = .ok (.iload_n 3, 1) := lwd_33 (1151, .iload_n 3, 1) (List.mem_of_getElem? (i := 2) rfl)
  have d1152 : decode code 1152 = .ok (.iconst 1, 1) := lwd_33 (1152, .iconst 1, 1) (List.mem_of_getElem? (i := 3) rfl)
  have d1153 : decode code 1153 = .ok (.iadd, 1) := lwd_33 (1153, .iadd, 1) (List.mem_of_getElem? (i := 4) rfl)
  have d1154 : decode code 1154 = .ok (.iaload, 1) := lwd_33 (1154, .iaload, 1) (List.mem_of_getElem? (i := 5) rfl)
  have d1155 : decode code 1155 = .ok (.invokevirtual 154, 3) := lwd_33 (1155, .invokevirtual 154, 3) (List.mem_of_getElem? (i := 6) rfl)
  have d1158 : decode code 1158 = .ok (.aload_n 2, 1) := lwd_33 (1158, .aload_n 2, 1) (List.mem_of_getElem? (i := 7) rfl)
  have d1159 : decode code 1159 = .ok (.aload_n 0, 1) := lwd_33 (1159, .aload_n 0, 1) (List.mem_of_getElem? (i := 8) rfl)
  have d1160 : decode code 1160 = .ok (.iload_n 3, 1) := lwd_33 (1160, .iload_n 3, 1) (List.mem_of_getElem? (i := 9) rfl)
  have d1161 : decode code 1161 = .ok (.iconst 1, 1) := lwd_33 (1161, .iconst 1, 1) (List.mem_of_getElem? (i := 10) rfl)
  have d1162 : decode code 1162 = .ok (.iadd, 1) := lwd_33 (1162, .iadd, 1) (List.mem_of_getElem? (i := 11) rfl)
  have d1163 : decode code 1163 = .ok (.iaload, 1) := lwd_33 (1163, .iaload, 1) (List.mem_of_getElem? (i := 12) rfl)
  have d1164 : decode code 1164 = .ok (.invokevirtual 157, 3) := lwd_33 (1164, .invokevirtual 157, 3) (List.mem_of_getElem? (i := 13) rfl)
  have d1167 : decode code 1167 = .ok (.if_icmp .eq 5, 3) := lwd_33 (1167, .if_icmp .eq 5, 3) (List.mem_of_getElem? (i := 14) rfl)
  have d1170 : decode code 1170 = .ok (.iconst 0, 1) := lwd_33 (1170, .iconst 0, 1) (List.mem_of_getElem? (i := 15) rfl)
  have d1171 : decode code 1171 = .ok (.ireturn, 1) := lwd_33 (1171, .ireturn, 1) (List.mem_of_getElem? (i := 16) rfl)
  obtain ⟨hx, hb, hr, hml, hown, hts, hX, hbl, hlocks, hgv⟩ := id C0
  obtain ⟨hK, hI1, hI2, hZ1, hZ2, hA1, hA2, hdis⟩ := F
  obtain ⟨hP1, hP2, hS⟩ := hW
  obtain ⟨x, μ', ν', e1, e2, hR'⟩ := ok k μ ν hk hR
  refine lv_aload_n hx hb d1149 rfl (lv_at hl 1 rfl) ?_
  refine l_arg (d := 1) C0 hS hl d1150 d1151 d1152 d1153 d1154 rfl (by omega) hL ?_
  refine l_callV (n := 1) (w := (D, τ, LC, a1)) (c0 := 177) (as := [.int (xs (i + 1))]) (rest := []) (M' := MX9_look) (ci := 0) (C := RX9) (T := TX9) (N := 5) (A0 := fun _ => True) hx hb hml hown hts hl.1 d1155 (tX9_look l D τ a1 _ _ _ e1) rfl rfl q1177 q1178 q1179 q141 q1180 (by decide +kernel) (by decide) rfl (Nat.le_of_ble_eq_true rfl) hcs hP1 hK hI1 hZ1 (by rintro q ⟨c, hc, rfl⟩; exact hA1 c hc) hS (by intro v hv; simp at hv; try (rcases hv with rfl | rfl | rfl | rfl <;> rfl); try (rcases hv with rfl | rfl | rfl <;> rfl); try (rcases hv with rfl | rfl <;> rfl); try (subst hv; rfl)) (by intro q hq; cases hq; rfl) (fun H1 locs1 hQ1 hS hkeep => ?_)
  have hP2 : va_P D gcl (gW (D, τ, LM, a2) ν) H1 := hP2.kept (fun k9 q9 h9 => by
    have hlt := (hP2 k9 q9 h9).lt
    refine hkeep _ hlt ?_
    rintro ⟨c, hc, he⟩
    have h8 : k9 < 17 := by have := (List.getElem?_eq_some_iff.mp h9).1; rw [gW_len] at this; exact this
    rw [gW_get (w := (D, τ, LM, a2)) h8] at h9
    cases h9
    exact hdis c k9 hc h8 he.symm)
  refine lv_aload_n hx hb d1158 rfl (lv_at hl 2 rfl) ?_
  refine l_arg (d := 1) C0 hS hl d1159 d1160 d1161 d1162 d1163 rfl (by omega) hL ?_
  refine l_callV (n := 1) (w := (D, τ, LM, a2)) (c0 := 0) (as := [.int (xs (i + 1))]) (rest := [.int x]) (M' := MX10_look) (ci := 9) (C := RX10) (T := TX10) (N := 30) (A0 := fun _ => True) hx hb hml hown hts hl.1 d1164 (tX10_look l D τ a2 _ _ _ e2) rfl rfl q1793 q1794 q1795 q150 q1796 (by decide +kernel) (by decide) rfl (Nat.le_of_ble_eq_true rfl) hcs hP2 hK hI2 hZ2 (by rintro q ⟨c, hc, rfl⟩; exact hA2 c hc) hS (by intro v hv; simp at hv; try (rcases hv with rfl | rfl | rfl | rfl <;> rfl); try (rcases hv with rfl | rfl | rfl <;> rfl); try (rcases hv with rfl | rfl <;> rfl); try (subst hv; rfl)) (by intro q hq; cases hq; rfl) (fun H2 locs2 hQ2 hS hkeep2 => ?_)
  have hQ1 : va_P D gcl (gW (D, τ, LC, a1) μ') H2 := hQ1.kept (fun k9 q9 h9 => by
    have hlt := (hQ1 k9 q9 h9).lt
    refine hkeep2 _ hlt ?_
    rintro ⟨c, hc, he⟩
    have h8 : k9 < 182 := by have := (List.getElem?_eq_some_iff.mp h9).1; rw [gW_len] at this; exact this
    rw [gW_get (w := (D, τ, LC, a1)) h8] at h9
    cases h9
    exact hdis k9 c h8 hc he)
  refine lv_icmp_eq (tgt := 1172) hx hb d1167 (by decide) (fun _ => ?_) (fun hc => absurd rfl hc)
  exact kk _ _ μ' ν' ⟨hQ1, hQ2, hS⟩ hR'
end LAW
