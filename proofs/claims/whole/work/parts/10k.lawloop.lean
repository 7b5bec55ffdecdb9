/-! THE LAW'S LOOP, as a function of the script (L ints xs) and the memory: its answer -/
set_option maxRecDepth 100000 in
theorem ww_109 : Cond.initialized RL ∈ mm_gw := mm_gw_in (mm_ch1 (List.mem_of_getElem? (i := 0) (by rfl))) rfl
set_option maxRecDepth 100000 in
theorem ww_533 : Cond.methodLink RL 25 yX11_feed ∈ mm_gw := mm_gw_in (mm_ch2 (List.mem_of_getElem? (i := 184) (by rfl))) rfl
set_option maxRecDepth 100000 in
theorem ww_534 : Cond.instanceMethod yX11_feed ∈ mm_gw := mm_gw_in (mm_ch2 (List.mem_of_getElem? (i := 185) (by rfl))) rfl
set_option maxRecDepth 100000 in
theorem ww_535 : Cond.selects RX11 yX11_feed yX11_feed ∈ mm_gw := mm_gw_in (mm_ch2 (List.mem_of_getElem? (i := 186) (by rfl))) rfl
set_option maxRecDepth 100000 in
theorem ww_536 : Cond.code yX11_feed cX11_feed 7 (some .int) ∈ mm_gw := mm_gw_in (mm_ch2 (List.mem_of_getElem? (i := 187) (by rfl))) rfl
set_option maxRecDepth 100000 in
theorem ww_541 : Cond.methodLink RL 30 yX11_town ∈ mm_gw := mm_gw_in (mm_ch2 (List.mem_of_getElem? (i := 192) (by rfl))) rfl
set_option maxRecDepth 100000 in
theorem ww_542 : Cond.instanceMethod yX11_town ∈ mm_gw := mm_gw_in (mm_ch2 (List.mem_of_getElem? (i := 193) (by rfl))) rfl
set_option maxRecDepth 100000 in
theorem ww_543 : Cond.selects RX11 yX11_town yX11_town ∈ mm_gw := mm_gw_in (mm_ch2 (List.mem_of_getElem? (i := 194) (by rfl))) rfl
set_option maxRecDepth 100000 in
theorem ww_544 : Cond.code yX11_town cX11_town 3 (some .int) ∈ mm_gw := mm_gw_in (mm_ch2 (List.mem_of_getElem? (i := 195) (by rfl))) rfl
set_option maxRecDepth 100000 in
theorem ww_838 : Cond.methodLink RL 35 yX11_gossip ∈ mm_gw := mm_gw_in (mm_ch4 (List.mem_of_getElem? (i := 9) (by rfl))) rfl
set_option maxRecDepth 100000 in
theorem ww_839 : Cond.instanceMethod yX11_gossip ∈ mm_gw := mm_gw_in (mm_ch4 (List.mem_of_getElem? (i := 10) (by rfl))) rfl
set_option maxRecDepth 100000 in
theorem ww_840 : Cond.selects RX11 yX11_gossip yX11_gossip ∈ mm_gw := mm_gw_in (mm_ch4 (List.mem_of_getElem? (i := 11) (by rfl))) rfl
set_option maxRecDepth 100000 in
theorem ww_841 : Cond.code yX11_gossip cX11_gossip 2 (some .int) ∈ mm_gw := mm_gw_in (mm_ch4 (List.mem_of_getElem? (i := 12) (by rfl))) rfl
set_option maxRecDepth 100000 in
theorem ww_879 : Cond.methodLink RL 48 yX11_secret ∈ mm_gw := mm_gw_in (mm_ch4 (List.mem_of_getElem? (i := 50) (by rfl))) rfl
set_option maxRecDepth 100000 in
theorem ww_880 : Cond.instanceMethod yX11_secret ∈ mm_gw := mm_gw_in (mm_ch4 (List.mem_of_getElem? (i := 51) (by rfl))) rfl
set_option maxRecDepth 100000 in
theorem ww_881 : Cond.selects RX11 yX11_secret yX11_secret ∈ mm_gw := mm_gw_in (mm_ch4 (List.mem_of_getElem? (i := 52) (by rfl))) rfl
set_option maxRecDepth 100000 in
theorem ww_882 : Cond.code yX11_secret cX11_secret 3 (some .int) ∈ mm_gw := mm_gw_in (mm_ch4 (List.mem_of_getElem? (i := 53) (by rfl))) rfl
set_option maxRecDepth 100000 in
theorem ww_924 : Cond.methodLink RL 52 yX11_aware ∈ mm_gw := mm_gw_in (mm_ch4 (List.mem_of_getElem? (i := 95) (by rfl))) rfl
set_option maxRecDepth 100000 in
theorem ww_925 : Cond.instanceMethod yX11_aware ∈ mm_gw := mm_gw_in (mm_ch4 (List.mem_of_getElem? (i := 96) (by rfl))) rfl
set_option maxRecDepth 100000 in
theorem ww_926 : Cond.selects RX11 yX11_aware yX11_aware ∈ mm_gw := mm_gw_in (mm_ch4 (List.mem_of_getElem? (i := 97) (by rfl))) rfl
set_option maxRecDepth 100000 in
theorem ww_927 : Cond.code yX11_aware cX11_aware 4 (some .int) ∈ mm_gw := mm_gw_in (mm_ch4 (List.mem_of_getElem? (i := 98) (by rfl))) rfl
set_option maxRecDepth 100000 in
theorem ww_940 : Cond.methodLink RL 57 yX11_ear ∈ mm_gw := mm_gw_in (mm_ch4 (List.mem_of_getElem? (i := 111) (by rfl))) rfl
set_option maxRecDepth 100000 in
theorem ww_941 : Cond.instanceMethod yX11_ear ∈ mm_gw := mm_gw_in (mm_ch4 (List.mem_of_getElem? (i := 112) (by rfl))) rfl
set_option maxRecDepth 100000 in
theorem ww_942 : Cond.selects RX11 yX11_ear yX11_ear ∈ mm_gw := mm_gw_in (mm_ch4 (List.mem_of_getElem? (i := 113) (by rfl))) rfl
set_option maxRecDepth 100000 in
theorem ww_943 : Cond.code yX11_ear cX11_ear 3 (some .int) ∈ mm_gw := mm_gw_in (mm_ch4 (List.mem_of_getElem? (i := 114) (by rfl))) rfl
set_option maxRecDepth 100000 in
theorem ww_949 : Cond.methodLink RL 61 yX11_tell ∈ mm_gw := mm_gw_in (mm_ch4 (List.mem_of_getElem? (i := 120) (by rfl))) rfl
set_option maxRecDepth 100000 in
theorem ww_950 : Cond.instanceMethod yX11_tell ∈ mm_gw := mm_gw_in (mm_ch4 (List.mem_of_getElem? (i := 121) (by rfl))) rfl
set_option maxRecDepth 100000 in
theorem ww_951 : Cond.selects RX11 yX11_tell yX11_tell ∈ mm_gw := mm_gw_in (mm_ch4 (List.mem_of_getElem? (i := 122) (by rfl))) rfl
set_option maxRecDepth 100000 in
theorem ww_952 : Cond.code yX11_tell cX11_tell 4 (some .int) ∈ mm_gw := mm_gw_in (mm_ch4 (List.mem_of_getElem? (i := 123) (by rfl))) rfl
set_option maxRecDepth 100000 in
theorem ww_976 : Cond.methodLink RL 65 yX11_pay ∈ mm_gw := mm_gw_in (mm_ch4 (List.mem_of_getElem? (i := 147) (by rfl))) rfl
set_option maxRecDepth 100000 in
theorem ww_977 : Cond.instanceMethod yX11_pay ∈ mm_gw := mm_gw_in (mm_ch4 (List.mem_of_getElem? (i := 148) (by rfl))) rfl
set_option maxRecDepth 100000 in
theorem ww_978 : Cond.selects RX11 yX11_pay yX11_pay ∈ mm_gw := mm_gw_in (mm_ch4 (List.mem_of_getElem? (i := 149) (by rfl))) rfl
set_option maxRecDepth 100000 in
theorem ww_979 : Cond.code yX11_pay cX11_pay 3 (some .int) ∈ mm_gw := mm_gw_in (mm_ch4 (List.mem_of_getElem? (i := 150) (by rfl))) rfl
set_option maxRecDepth 100000 in
theorem ww_1001 : Cond.methodLink RL 69 yX11_rise ∈ mm_gw := mm_gw_in (mm_ch4 (List.mem_of_getElem? (i := 172) (by rfl))) rfl
set_option maxRecDepth 100000 in
theorem ww_1002 : Cond.instanceMethod yX11_rise ∈ mm_gw := mm_gw_in (mm_ch4 (List.mem_of_getElem? (i := 173) (by rfl))) rfl
set_option maxRecDepth 100000 in
theorem ww_1003 : Cond.selects RX11 yX11_rise yX11_rise ∈ mm_gw := mm_gw_in (mm_ch4 (List.mem_of_getElem? (i := 174) (by rfl))) rfl
set_option maxRecDepth 100000 in
theorem ww_1004 : Cond.code yX11_rise cX11_rise 2 (some .int) ∈ mm_gw := mm_gw_in (mm_ch4 (List.mem_of_getElem? (i := 175) (by rfl))) rfl
set_option maxRecDepth 100000 in
theorem ww_1005 : Cond.methodLink RL 74 yX11_quarter ∈ mm_gw := mm_gw_in (mm_ch4 (List.mem_of_getElem? (i := 176) (by rfl))) rfl
set_option maxRecDepth 100000 in
theorem ww_1006 : Cond.instanceMethod yX11_quarter ∈ mm_gw := mm_gw_in (mm_ch4 (List.mem_of_getElem? (i := 177) (by rfl))) rfl
set_option maxRecDepth 100000 in
theorem ww_1007 : Cond.selects RX11 yX11_quarter yX11_quarter ∈ mm_gw := mm_gw_in (mm_ch4 (List.mem_of_getElem? (i := 178) (by rfl))) rfl
set_option maxRecDepth 100000 in
theorem ww_1008 : Cond.code yX11_quarter cX11_quarter 1 (some .int) ∈ mm_gw := mm_gw_in (mm_ch4 (List.mem_of_getElem? (i := 179) (by rfl))) rfl
set_option maxRecDepth 100000 in
theorem ww_1013 : Cond.methodLink RL 78 yX11_lend ∈ mm_gw := mm_gw_in (mm_ch4 (List.mem_of_getElem? (i := 184) (by rfl))) rfl
set_option maxRecDepth 100000 in
theorem ww_1014 : Cond.instanceMethod yX11_lend ∈ mm_gw := mm_gw_in (mm_ch4 (List.mem_of_getElem? (i := 185) (by rfl))) rfl
set_option maxRecDepth 100000 in
theorem ww_1015 : Cond.selects RX11 yX11_lend yX11_lend ∈ mm_gw := mm_gw_in (mm_ch4 (List.mem_of_getElem? (i := 186) (by rfl))) rfl
set_option maxRecDepth 100000 in
theorem ww_1016 : Cond.code yX11_lend cX11_lend 5 (some .int) ∈ mm_gw := mm_gw_in (mm_ch4 (List.mem_of_getElem? (i := 187) (by rfl))) rfl
set_option maxRecDepth 100000 in
theorem ww_1025 : Cond.methodLink RL 82 yX11_undo ∈ mm_gw := mm_gw_in (mm_ch4 (List.mem_of_getElem? (i := 196) (by rfl))) rfl
set_option maxRecDepth 100000 in
theorem ww_1026 : Cond.instanceMethod yX11_undo ∈ mm_gw := mm_gw_in (mm_ch4 (List.mem_of_getElem? (i := 197) (by rfl))) rfl
set_option maxRecDepth 100000 in
theorem ww_1027 : Cond.selects RX11 yX11_undo yX11_undo ∈ mm_gw := mm_gw_in (mm_ch4 (List.mem_of_getElem? (i := 198) (by rfl))) rfl
set_option maxRecDepth 100000 in
theorem ww_1028 : Cond.code yX11_undo cX11_undo 1 (some .boolean) ∈ mm_gw := mm_gw_in (mm_ch4 (List.mem_of_getElem? (i := 199) (by rfl))) rfl
set_option maxRecDepth 100000 in
theorem ww_1032 : Cond.methodLink RL 87 yX11_judged ∈ mm_gw := mm_gw_in (mm_ch4 (List.mem_of_getElem? (i := 203) (by rfl))) rfl
set_option maxRecDepth 100000 in
theorem ww_1033 : Cond.instanceMethod yX11_judged ∈ mm_gw := mm_gw_in (mm_ch4 (List.mem_of_getElem? (i := 204) (by rfl))) rfl
set_option maxRecDepth 100000 in
theorem ww_1034 : Cond.selects RX11 yX11_judged yX11_judged ∈ mm_gw := mm_gw_in (mm_ch4 (List.mem_of_getElem? (i := 205) (by rfl))) rfl
set_option maxRecDepth 100000 in
theorem ww_1035 : Cond.code yX11_judged cX11_judged 2 (some .int) ∈ mm_gw := mm_gw_in (mm_ch4 (List.mem_of_getElem? (i := 206) (by rfl))) rfl
set_option maxRecDepth 100000 in
theorem ww_1049 : Cond.methodLink RL 91 yX11_least ∈ mm_gw := mm_gw_in (mm_ch4 (List.mem_of_getElem? (i := 220) (by rfl))) rfl
set_option maxRecDepth 100000 in
theorem ww_1050 : Cond.instanceMethod yX11_least ∈ mm_gw := mm_gw_in (mm_ch4 (List.mem_of_getElem? (i := 221) (by rfl))) rfl
set_option maxRecDepth 100000 in
theorem ww_1051 : Cond.selects RX11 yX11_least yX11_least ∈ mm_gw := mm_gw_in (mm_ch4 (List.mem_of_getElem? (i := 222) (by rfl))) rfl
set_option maxRecDepth 100000 in
theorem ww_1052 : Cond.code yX11_least cX11_least 2 (some .int) ∈ mm_gw := mm_gw_in (mm_ch4 (List.mem_of_getElem? (i := 223) (by rfl))) rfl
set_option maxRecDepth 100000 in
theorem ww_1068 : Cond.methodLink RL 95 yX11_payers ∈ mm_gw := mm_gw_in (mm_ch4 (List.mem_of_getElem? (i := 239) (by rfl))) rfl
set_option maxRecDepth 100000 in
theorem ww_1069 : Cond.instanceMethod yX11_payers ∈ mm_gw := mm_gw_in (mm_ch5 (List.mem_of_getElem? (i := 0) (by rfl))) rfl
set_option maxRecDepth 100000 in
theorem ww_1070 : Cond.selects RX11 yX11_payers yX11_payers ∈ mm_gw := mm_gw_in (mm_ch5 (List.mem_of_getElem? (i := 1) (by rfl))) rfl
set_option maxRecDepth 100000 in
theorem ww_1071 : Cond.code yX11_payers cX11_payers 1 (some .int) ∈ mm_gw := mm_gw_in (mm_ch5 (List.mem_of_getElem? (i := 2) (by rfl))) rfl
set_option maxRecDepth 100000 in
theorem ww_1082 : Cond.methodLink RL 103 yX11_see ∈ mm_gw := mm_gw_in (mm_ch5 (List.mem_of_getElem? (i := 13) (by rfl))) rfl
set_option maxRecDepth 100000 in
theorem ww_1083 : Cond.instanceMethod yX11_see ∈ mm_gw := mm_gw_in (mm_ch5 (List.mem_of_getElem? (i := 14) (by rfl))) rfl
set_option maxRecDepth 100000 in
theorem ww_1084 : Cond.selects RX11 yX11_see yX11_see ∈ mm_gw := mm_gw_in (mm_ch5 (List.mem_of_getElem? (i := 15) (by rfl))) rfl
set_option maxRecDepth 100000 in
theorem ww_1085 : Cond.code yX11_see cX11_see 3 (some .boolean) ∈ mm_gw := mm_gw_in (mm_ch5 (List.mem_of_getElem? (i := 16) (by rfl))) rfl
set_option maxRecDepth 100000 in
theorem ww_1090 : Cond.methodLink RL 108 yX11_leaks ∈ mm_gw := mm_gw_in (mm_ch5 (List.mem_of_getElem? (i := 21) (by rfl))) rfl
set_option maxRecDepth 100000 in
theorem ww_1091 : Cond.instanceMethod yX11_leaks ∈ mm_gw := mm_gw_in (mm_ch5 (List.mem_of_getElem? (i := 22) (by rfl))) rfl
set_option maxRecDepth 100000 in
theorem ww_1092 : Cond.selects RX11 yX11_leaks yX11_leaks ∈ mm_gw := mm_gw_in (mm_ch5 (List.mem_of_getElem? (i := 23) (by rfl))) rfl
set_option maxRecDepth 100000 in
theorem ww_1093 : Cond.code yX11_leaks cX11_leaks 2 (some .int) ∈ mm_gw := mm_gw_in (mm_ch5 (List.mem_of_getElem? (i := 24) (by rfl))) rfl
set_option maxRecDepth 100000 in
theorem ww_1102 : Cond.methodLink RL 112 yX11_lies ∈ mm_gw := mm_gw_in (mm_ch5 (List.mem_of_getElem? (i := 33) (by rfl))) rfl
set_option maxRecDepth 100000 in
theorem ww_1103 : Cond.instanceMethod yX11_lies ∈ mm_gw := mm_gw_in (mm_ch5 (List.mem_of_getElem? (i := 34) (by rfl))) rfl
set_option maxRecDepth 100000 in
theorem ww_1104 : Cond.selects RX11 yX11_lies yX11_lies ∈ mm_gw := mm_gw_in (mm_ch5 (List.mem_of_getElem? (i := 35) (by rfl))) rfl
set_option maxRecDepth 100000 in
theorem ww_1105 : Cond.code yX11_lies cX11_lies 2 (some .int) ∈ mm_gw := mm_gw_in (mm_ch5 (List.mem_of_getElem? (i := 36) (by rfl))) rfl
set_option maxRecDepth 100000 in
theorem ww_1114 : Cond.methodLink RL 116 yX11_mean ∈ mm_gw := mm_gw_in (mm_ch5 (List.mem_of_getElem? (i := 45) (by rfl))) rfl
set_option maxRecDepth 100000 in
theorem ww_1115 : Cond.instanceMethod yX11_mean ∈ mm_gw := mm_gw_in (mm_ch5 (List.mem_of_getElem? (i := 46) (by rfl))) rfl
set_option maxRecDepth 100000 in
theorem ww_1116 : Cond.selects RX11 yX11_mean yX11_mean ∈ mm_gw := mm_gw_in (mm_ch5 (List.mem_of_getElem? (i := 47) (by rfl))) rfl
set_option maxRecDepth 100000 in
theorem ww_1117 : Cond.code yX11_mean cX11_mean 3 (some .int) ∈ mm_gw := mm_gw_in (mm_ch5 (List.mem_of_getElem? (i := 48) (by rfl))) rfl
set_option maxRecDepth 100000 in
theorem ww_1161 : Cond.methodLink RL 120 yX11_holds ∈ mm_gw := mm_gw_in (mm_ch5 (List.mem_of_getElem? (i := 92) (by rfl))) rfl
set_option maxRecDepth 100000 in
theorem ww_1162 : Cond.instanceMethod yX11_holds ∈ mm_gw := mm_gw_in (mm_ch5 (List.mem_of_getElem? (i := 93) (by rfl))) rfl
set_option maxRecDepth 100000 in
theorem ww_1163 : Cond.selects RX11 yX11_holds yX11_holds ∈ mm_gw := mm_gw_in (mm_ch5 (List.mem_of_getElem? (i := 94) (by rfl))) rfl
set_option maxRecDepth 100000 in
theorem ww_1164 : Cond.code yX11_holds cX11_holds 3 (some .int) ∈ mm_gw := mm_gw_in (mm_ch5 (List.mem_of_getElem? (i := 95) (by rfl))) rfl
set_option maxRecDepth 100000 in
theorem ww_1169 : Cond.methodLink RL 124 yX11_settle ∈ mm_gw := mm_gw_in (mm_ch5 (List.mem_of_getElem? (i := 100) (by rfl))) rfl
set_option maxRecDepth 100000 in
theorem ww_1170 : Cond.instanceMethod yX11_settle ∈ mm_gw := mm_gw_in (mm_ch5 (List.mem_of_getElem? (i := 101) (by rfl))) rfl
set_option maxRecDepth 100000 in
theorem ww_1171 : Cond.selects RX11 yX11_settle yX11_settle ∈ mm_gw := mm_gw_in (mm_ch5 (List.mem_of_getElem? (i := 102) (by rfl))) rfl
set_option maxRecDepth 100000 in
theorem ww_1172 : Cond.code yX11_settle cX11_settle 1 (some .int) ∈ mm_gw := mm_gw_in (mm_ch5 (List.mem_of_getElem? (i := 103) (by rfl))) rfl
set_option maxRecDepth 100000 in
theorem ww_1178 : Cond.methodLink RL 128 yX11_rests ∈ mm_gw := mm_gw_in (mm_ch5 (List.mem_of_getElem? (i := 109) (by rfl))) rfl
set_option maxRecDepth 100000 in
theorem ww_1179 : Cond.instanceMethod yX11_rests ∈ mm_gw := mm_gw_in (mm_ch5 (List.mem_of_getElem? (i := 110) (by rfl))) rfl
set_option maxRecDepth 100000 in
theorem ww_1180 : Cond.selects RX11 yX11_rests yX11_rests ∈ mm_gw := mm_gw_in (mm_ch5 (List.mem_of_getElem? (i := 111) (by rfl))) rfl
set_option maxRecDepth 100000 in
theorem ww_1181 : Cond.code yX11_rests cX11_rests 4 (some .int) ∈ mm_gw := mm_gw_in (mm_ch5 (List.mem_of_getElem? (i := 112) (by rfl))) rfl
set_option maxRecDepth 100000 in
theorem ww_1208 : Cond.methodLink RL 132 yX11_years ∈ mm_gw := mm_gw_in (mm_ch5 (List.mem_of_getElem? (i := 139) (by rfl))) rfl
set_option maxRecDepth 100000 in
theorem ww_1209 : Cond.instanceMethod yX11_years ∈ mm_gw := mm_gw_in (mm_ch5 (List.mem_of_getElem? (i := 140) (by rfl))) rfl
set_option maxRecDepth 100000 in
theorem ww_1210 : Cond.selects RX11 yX11_years yX11_years ∈ mm_gw := mm_gw_in (mm_ch5 (List.mem_of_getElem? (i := 141) (by rfl))) rfl
set_option maxRecDepth 100000 in
theorem ww_1211 : Cond.code yX11_years cX11_years 4 (some .int) ∈ mm_gw := mm_gw_in (mm_ch5 (List.mem_of_getElem? (i := 142) (by rfl))) rfl
set_option maxRecDepth 100000 in
theorem ww_1232 : Cond.methodLink RL 136 yX11_mark ∈ mm_gw := mm_gw_in (mm_ch5 (List.mem_of_getElem? (i := 163) (by rfl))) rfl
set_option maxRecDepth 100000 in
theorem ww_1233 : Cond.instanceMethod yX11_mark ∈ mm_gw := mm_gw_in (mm_ch5 (List.mem_of_getElem? (i := 164) (by rfl))) rfl
set_option maxRecDepth 100000 in
theorem ww_1234 : Cond.selects RX11 yX11_mark yX11_mark ∈ mm_gw := mm_gw_in (mm_ch5 (List.mem_of_getElem? (i := 165) (by rfl))) rfl
set_option maxRecDepth 100000 in
theorem ww_1235 : Cond.code yX11_mark cX11_mark 3 (some .boolean) ∈ mm_gw := mm_gw_in (mm_ch5 (List.mem_of_getElem? (i := 166) (by rfl))) rfl
set_option maxRecDepth 100000 in
theorem ww_1241 : Cond.methodLink RL 140 yX11_count ∈ mm_gw := mm_gw_in (mm_ch5 (List.mem_of_getElem? (i := 172) (by rfl))) rfl
set_option maxRecDepth 100000 in
theorem ww_1242 : Cond.instanceMethod yX11_count ∈ mm_gw := mm_gw_in (mm_ch5 (List.mem_of_getElem? (i := 173) (by rfl))) rfl
set_option maxRecDepth 100000 in
theorem ww_1243 : Cond.selects RX11 yX11_count yX11_count ∈ mm_gw := mm_gw_in (mm_ch5 (List.mem_of_getElem? (i := 174) (by rfl))) rfl
set_option maxRecDepth 100000 in
theorem ww_1244 : Cond.code yX11_count cX11_count 2 (some .int) ∈ mm_gw := mm_gw_in (mm_ch5 (List.mem_of_getElem? (i := 175) (by rfl))) rfl
set_option maxRecDepth 100000 in
theorem ww_1245 : Cond.methodLink RL 39 yL_person ∈ mm_gw := mm_gw_in (mm_ch5 (List.mem_of_getElem? (i := 176) (by rfl))) rfl
set_option maxRecDepth 100000 in
theorem ww_1246 : Cond.static yL_person ∈ mm_gw := mm_gw_in (mm_ch5 (List.mem_of_getElem? (i := 177) (by rfl))) rfl
set_option maxRecDepth 100000 in
theorem ww_1247 : Cond.codeWith yL_person cL_person 5 (some .int) [(0, 10, 13, 13)] ∈ mm_gw := mm_gw_in (mm_ch5 (List.mem_of_getElem? (i := 178) (by rfl))) rfl
set_option maxRecDepth 100000 in
theorem ww_1315 : Cond.methodLink RL 99 yL_plot ∈ mm_gw := mm_gw_in (mm_ch6 (List.mem_of_getElem? (i := 6) (by rfl))) rfl
set_option maxRecDepth 100000 in
theorem ww_1316 : Cond.static yL_plot ∈ mm_gw := mm_gw_in (mm_ch6 (List.mem_of_getElem? (i := 7) (by rfl))) rfl
set_option maxRecDepth 100000 in
theorem ww_1317 : Cond.codeWith yL_plot cL_plot 7 (some .int) [(0, 14, 17, 13)] ∈ mm_gw := mm_gw_in (mm_ch6 (List.mem_of_getElem? (i := 8) (by rfl))) rfl
set_option maxRecDepth 100000 in
theorem ww_1570 : Cond.methodLink RL 45 yX12_thrown ∈ mm_gw := mm_gw_in (mm_ch7 (List.mem_of_getElem? (i := 21) (by rfl))) rfl
set_option maxRecDepth 100000 in
theorem ww_1571 : Cond.instanceMethod yX12_thrown ∈ mm_gw := mm_gw_in (mm_ch7 (List.mem_of_getElem? (i := 22) (by rfl))) rfl
set_option maxRecDepth 100000 in
theorem ww_1572 : Cond.selects RX12 yX12_thrown yX12_thrown ∈ mm_gw := mm_gw_in (mm_ch7 (List.mem_of_getElem? (i := 23) (by rfl))) rfl
set_option maxRecDepth 100000 in
theorem ww_1573 : Cond.code yX12_thrown cX12_thrown 1 (some .int) ∈ mm_gw := mm_gw_in (mm_ch7 (List.mem_of_getElem? (i := 24) (by rfl))) rfl
set_option maxRecDepth 100000 in
theorem ww_1574 : Cond.methodLink RL 29 yX12_feed ∈ mm_gw := mm_gw_in (mm_ch7 (List.mem_of_getElem? (i := 25) (by rfl))) rfl
set_option maxRecDepth 100000 in
theorem ww_1575 : Cond.instanceMethod yX12_feed ∈ mm_gw := mm_gw_in (mm_ch7 (List.mem_of_getElem? (i := 26) (by rfl))) rfl
set_option maxRecDepth 100000 in
theorem ww_1576 : Cond.selects RX12 yX12_feed yX12_feed ∈ mm_gw := mm_gw_in (mm_ch7 (List.mem_of_getElem? (i := 27) (by rfl))) rfl
set_option maxRecDepth 100000 in
theorem ww_1577 : Cond.code yX12_feed cX12_feed 11 (some .int) ∈ mm_gw := mm_gw_in (mm_ch7 (List.mem_of_getElem? (i := 28) (by rfl))) rfl
set_option maxRecDepth 100000 in
theorem ww_1579 : Cond.methodLink RL 34 yX12_town ∈ mm_gw := mm_gw_in (mm_ch7 (List.mem_of_getElem? (i := 30) (by rfl))) rfl
set_option maxRecDepth 100000 in
theorem ww_1580 : Cond.instanceMethod yX12_town ∈ mm_gw := mm_gw_in (mm_ch7 (List.mem_of_getElem? (i := 31) (by rfl))) rfl
set_option maxRecDepth 100000 in
theorem ww_1581 : Cond.selects RX12 yX12_town yX12_town ∈ mm_gw := mm_gw_in (mm_ch7 (List.mem_of_getElem? (i := 32) (by rfl))) rfl
set_option maxRecDepth 100000 in
theorem ww_1582 : Cond.code yX12_town cX12_town 2 (some .int) ∈ mm_gw := mm_gw_in (mm_ch7 (List.mem_of_getElem? (i := 33) (by rfl))) rfl
set_option maxRecDepth 100000 in
theorem ww_1737 : Cond.methodLink RL 38 yX12_gossip ∈ mm_gw := mm_gw_in (mm_ch7 (List.mem_of_getElem? (i := 188) (by rfl))) rfl
set_option maxRecDepth 100000 in
theorem ww_1738 : Cond.instanceMethod yX12_gossip ∈ mm_gw := mm_gw_in (mm_ch7 (List.mem_of_getElem? (i := 189) (by rfl))) rfl
set_option maxRecDepth 100000 in
theorem ww_1739 : Cond.selects RX12 yX12_gossip yX12_gossip ∈ mm_gw := mm_gw_in (mm_ch7 (List.mem_of_getElem? (i := 190) (by rfl))) rfl
set_option maxRecDepth 100000 in
theorem ww_1740 : Cond.code yX12_gossip cX12_gossip 1 (some .int) ∈ mm_gw := mm_gw_in (mm_ch7 (List.mem_of_getElem? (i := 191) (by rfl))) rfl
set_option maxRecDepth 100000 in
theorem ww_1761 : Cond.methodLink RL 44 yX12_person ∈ mm_gw := mm_gw_in (mm_ch7 (List.mem_of_getElem? (i := 212) (by rfl))) rfl
set_option maxRecDepth 100000 in
theorem ww_1762 : Cond.instanceMethod yX12_person ∈ mm_gw := mm_gw_in (mm_ch7 (List.mem_of_getElem? (i := 213) (by rfl))) rfl
set_option maxRecDepth 100000 in
theorem ww_1763 : Cond.selects RX12 yX12_person yX12_person ∈ mm_gw := mm_gw_in (mm_ch7 (List.mem_of_getElem? (i := 214) (by rfl))) rfl
set_option maxRecDepth 100000 in
theorem ww_1764 : Cond.code yX12_person cX12_person 3 (some .int) ∈ mm_gw := mm_gw_in (mm_ch7 (List.mem_of_getElem? (i := 215) (by rfl))) rfl
set_option maxRecDepth 100000 in
theorem ww_1817 : Cond.methodLink RL 51 yX12_secret ∈ mm_gw := mm_gw_in (mm_ch8 (List.mem_of_getElem? (i := 28) (by rfl))) rfl
set_option maxRecDepth 100000 in
theorem ww_1818 : Cond.instanceMethod yX12_secret ∈ mm_gw := mm_gw_in (mm_ch8 (List.mem_of_getElem? (i := 29) (by rfl))) rfl
set_option maxRecDepth 100000 in
theorem ww_1819 : Cond.selects RX12 yX12_secret yX12_secret ∈ mm_gw := mm_gw_in (mm_ch8 (List.mem_of_getElem? (i := 30) (by rfl))) rfl
set_option maxRecDepth 100000 in
theorem ww_1820 : Cond.code yX12_secret cX12_secret 3 (some .int) ∈ mm_gw := mm_gw_in (mm_ch8 (List.mem_of_getElem? (i := 31) (by rfl))) rfl
set_option maxRecDepth 100000 in
theorem ww_1825 : Cond.methodLink RL 56 yX12_aware ∈ mm_gw := mm_gw_in (mm_ch8 (List.mem_of_getElem? (i := 36) (by rfl))) rfl
set_option maxRecDepth 100000 in
theorem ww_1826 : Cond.instanceMethod yX12_aware ∈ mm_gw := mm_gw_in (mm_ch8 (List.mem_of_getElem? (i := 37) (by rfl))) rfl
set_option maxRecDepth 100000 in
theorem ww_1827 : Cond.selects RX12 yX12_aware yX12_aware ∈ mm_gw := mm_gw_in (mm_ch8 (List.mem_of_getElem? (i := 38) (by rfl))) rfl
set_option maxRecDepth 100000 in
theorem ww_1828 : Cond.code yX12_aware cX12_aware 4 (some .int) ∈ mm_gw := mm_gw_in (mm_ch8 (List.mem_of_getElem? (i := 39) (by rfl))) rfl
set_option maxRecDepth 100000 in
theorem ww_1833 : Cond.methodLink RL 60 yX12_ear ∈ mm_gw := mm_gw_in (mm_ch8 (List.mem_of_getElem? (i := 44) (by rfl))) rfl
set_option maxRecDepth 100000 in
theorem ww_1834 : Cond.instanceMethod yX12_ear ∈ mm_gw := mm_gw_in (mm_ch8 (List.mem_of_getElem? (i := 45) (by rfl))) rfl
set_option maxRecDepth 100000 in
theorem ww_1835 : Cond.selects RX12 yX12_ear yX12_ear ∈ mm_gw := mm_gw_in (mm_ch8 (List.mem_of_getElem? (i := 46) (by rfl))) rfl
set_option maxRecDepth 100000 in
theorem ww_1836 : Cond.code yX12_ear cX12_ear 4 (some .int) ∈ mm_gw := mm_gw_in (mm_ch8 (List.mem_of_getElem? (i := 47) (by rfl))) rfl
set_option maxRecDepth 100000 in
theorem ww_1842 : Cond.methodLink RL 64 yX12_tell ∈ mm_gw := mm_gw_in (mm_ch8 (List.mem_of_getElem? (i := 53) (by rfl))) rfl
set_option maxRecDepth 100000 in
theorem ww_1843 : Cond.instanceMethod yX12_tell ∈ mm_gw := mm_gw_in (mm_ch8 (List.mem_of_getElem? (i := 54) (by rfl))) rfl
set_option maxRecDepth 100000 in
theorem ww_1844 : Cond.selects RX12 yX12_tell yX12_tell ∈ mm_gw := mm_gw_in (mm_ch8 (List.mem_of_getElem? (i := 55) (by rfl))) rfl
set_option maxRecDepth 100000 in
theorem ww_1845 : Cond.code yX12_tell cX12_tell 4 (some .int) ∈ mm_gw := mm_gw_in (mm_ch8 (List.mem_of_getElem? (i := 56) (by rfl))) rfl
set_option maxRecDepth 100000 in
theorem ww_1865 : Cond.methodLink RL 68 yX12_pay ∈ mm_gw := mm_gw_in (mm_ch8 (List.mem_of_getElem? (i := 76) (by rfl))) rfl
set_option maxRecDepth 100000 in
theorem ww_1866 : Cond.instanceMethod yX12_pay ∈ mm_gw := mm_gw_in (mm_ch8 (List.mem_of_getElem? (i := 77) (by rfl))) rfl
set_option maxRecDepth 100000 in
theorem ww_1867 : Cond.selects RX12 yX12_pay yX12_pay ∈ mm_gw := mm_gw_in (mm_ch8 (List.mem_of_getElem? (i := 78) (by rfl))) rfl
set_option maxRecDepth 100000 in
theorem ww_1868 : Cond.code yX12_pay cX12_pay 3 (some .int) ∈ mm_gw := mm_gw_in (mm_ch8 (List.mem_of_getElem? (i := 79) (by rfl))) rfl
set_option maxRecDepth 100000 in
theorem ww_1877 : Cond.methodLink RL 73 yX12_rise ∈ mm_gw := mm_gw_in (mm_ch8 (List.mem_of_getElem? (i := 88) (by rfl))) rfl
set_option maxRecDepth 100000 in
theorem ww_1878 : Cond.instanceMethod yX12_rise ∈ mm_gw := mm_gw_in (mm_ch8 (List.mem_of_getElem? (i := 89) (by rfl))) rfl
set_option maxRecDepth 100000 in
theorem ww_1879 : Cond.selects RX12 yX12_rise yX12_rise ∈ mm_gw := mm_gw_in (mm_ch8 (List.mem_of_getElem? (i := 90) (by rfl))) rfl
set_option maxRecDepth 100000 in
theorem ww_1880 : Cond.code yX12_rise cX12_rise 2 (some .int) ∈ mm_gw := mm_gw_in (mm_ch8 (List.mem_of_getElem? (i := 91) (by rfl))) rfl
set_option maxRecDepth 100000 in
theorem ww_1881 : Cond.methodLink RL 77 yX12_quarter ∈ mm_gw := mm_gw_in (mm_ch8 (List.mem_of_getElem? (i := 92) (by rfl))) rfl
set_option maxRecDepth 100000 in
theorem ww_1882 : Cond.instanceMethod yX12_quarter ∈ mm_gw := mm_gw_in (mm_ch8 (List.mem_of_getElem? (i := 93) (by rfl))) rfl
set_option maxRecDepth 100000 in
theorem ww_1883 : Cond.selects RX12 yX12_quarter yX12_quarter ∈ mm_gw := mm_gw_in (mm_ch8 (List.mem_of_getElem? (i := 94) (by rfl))) rfl
set_option maxRecDepth 100000 in
theorem ww_1884 : Cond.code yX12_quarter cX12_quarter 1 (some .int) ∈ mm_gw := mm_gw_in (mm_ch8 (List.mem_of_getElem? (i := 95) (by rfl))) rfl
set_option maxRecDepth 100000 in
theorem ww_1889 : Cond.methodLink RL 81 yX12_lend ∈ mm_gw := mm_gw_in (mm_ch8 (List.mem_of_getElem? (i := 100) (by rfl))) rfl
set_option maxRecDepth 100000 in
theorem ww_1890 : Cond.instanceMethod yX12_lend ∈ mm_gw := mm_gw_in (mm_ch8 (List.mem_of_getElem? (i := 101) (by rfl))) rfl
set_option maxRecDepth 100000 in
theorem ww_1891 : Cond.selects RX12 yX12_lend yX12_lend ∈ mm_gw := mm_gw_in (mm_ch8 (List.mem_of_getElem? (i := 102) (by rfl))) rfl
set_option maxRecDepth 100000 in
theorem ww_1892 : Cond.code yX12_lend cX12_lend 5 (some .int) ∈ mm_gw := mm_gw_in (mm_ch8 (List.mem_of_getElem? (i := 103) (by rfl))) rfl
set_option maxRecDepth 100000 in
theorem ww_1893 : Cond.methodLink RL 86 yX12_undo ∈ mm_gw := mm_gw_in (mm_ch8 (List.mem_of_getElem? (i := 104) (by rfl))) rfl
set_option maxRecDepth 100000 in
theorem ww_1894 : Cond.instanceMethod yX12_undo ∈ mm_gw := mm_gw_in (mm_ch8 (List.mem_of_getElem? (i := 105) (by rfl))) rfl
set_option maxRecDepth 100000 in
theorem ww_1895 : Cond.selects RX12 yX12_undo yX12_undo ∈ mm_gw := mm_gw_in (mm_ch8 (List.mem_of_getElem? (i := 106) (by rfl))) rfl
set_option maxRecDepth 100000 in
theorem ww_1896 : Cond.code yX12_undo cX12_undo 1 (some .boolean) ∈ mm_gw := mm_gw_in (mm_ch8 (List.mem_of_getElem? (i := 107) (by rfl))) rfl
set_option maxRecDepth 100000 in
theorem ww_1897 : Cond.methodLink RL 90 yX12_judged ∈ mm_gw := mm_gw_in (mm_ch8 (List.mem_of_getElem? (i := 108) (by rfl))) rfl
set_option maxRecDepth 100000 in
theorem ww_1898 : Cond.instanceMethod yX12_judged ∈ mm_gw := mm_gw_in (mm_ch8 (List.mem_of_getElem? (i := 109) (by rfl))) rfl
set_option maxRecDepth 100000 in
theorem ww_1899 : Cond.selects RX12 yX12_judged yX12_judged ∈ mm_gw := mm_gw_in (mm_ch8 (List.mem_of_getElem? (i := 110) (by rfl))) rfl
set_option maxRecDepth 100000 in
theorem ww_1900 : Cond.code yX12_judged cX12_judged 4 (some .int) ∈ mm_gw := mm_gw_in (mm_ch8 (List.mem_of_getElem? (i := 111) (by rfl))) rfl
set_option maxRecDepth 100000 in
theorem ww_1913 : Cond.methodLink RL 94 yX12_least ∈ mm_gw := mm_gw_in (mm_ch8 (List.mem_of_getElem? (i := 124) (by rfl))) rfl
set_option maxRecDepth 100000 in
theorem ww_1914 : Cond.instanceMethod yX12_least ∈ mm_gw := mm_gw_in (mm_ch8 (List.mem_of_getElem? (i := 125) (by rfl))) rfl
set_option maxRecDepth 100000 in
theorem ww_1915 : Cond.selects RX12 yX12_least yX12_least ∈ mm_gw := mm_gw_in (mm_ch8 (List.mem_of_getElem? (i := 126) (by rfl))) rfl
set_option maxRecDepth 100000 in
theorem ww_1916 : Cond.code yX12_least cX12_least 2 (some .int) ∈ mm_gw := mm_gw_in (mm_ch8 (List.mem_of_getElem? (i := 127) (by rfl))) rfl
set_option maxRecDepth 100000 in
theorem ww_1924 : Cond.methodLink RL 98 yX12_payers ∈ mm_gw := mm_gw_in (mm_ch8 (List.mem_of_getElem? (i := 135) (by rfl))) rfl
set_option maxRecDepth 100000 in
theorem ww_1925 : Cond.instanceMethod yX12_payers ∈ mm_gw := mm_gw_in (mm_ch8 (List.mem_of_getElem? (i := 136) (by rfl))) rfl
set_option maxRecDepth 100000 in
theorem ww_1926 : Cond.selects RX12 yX12_payers yX12_payers ∈ mm_gw := mm_gw_in (mm_ch8 (List.mem_of_getElem? (i := 137) (by rfl))) rfl
set_option maxRecDepth 100000 in
theorem ww_1927 : Cond.code yX12_payers cX12_payers 5 (some .int) ∈ mm_gw := mm_gw_in (mm_ch8 (List.mem_of_getElem? (i := 138) (by rfl))) rfl
set_option maxRecDepth 100000 in
theorem ww_1932 : Cond.methodLink RL 102 yX12_plot ∈ mm_gw := mm_gw_in (mm_ch8 (List.mem_of_getElem? (i := 143) (by rfl))) rfl
set_option maxRecDepth 100000 in
theorem ww_1933 : Cond.instanceMethod yX12_plot ∈ mm_gw := mm_gw_in (mm_ch8 (List.mem_of_getElem? (i := 144) (by rfl))) rfl
set_option maxRecDepth 100000 in
theorem ww_1934 : Cond.selects RX12 yX12_plot yX12_plot ∈ mm_gw := mm_gw_in (mm_ch8 (List.mem_of_getElem? (i := 145) (by rfl))) rfl
set_option maxRecDepth 100000 in
theorem ww_1935 : Cond.code yX12_plot cX12_plot 5 (some .int) ∈ mm_gw := mm_gw_in (mm_ch8 (List.mem_of_getElem? (i := 146) (by rfl))) rfl
set_option maxRecDepth 100000 in
theorem ww_1940 : Cond.methodLink RL 107 yX12_see ∈ mm_gw := mm_gw_in (mm_ch8 (List.mem_of_getElem? (i := 151) (by rfl))) rfl
set_option maxRecDepth 100000 in
theorem ww_1941 : Cond.instanceMethod yX12_see ∈ mm_gw := mm_gw_in (mm_ch8 (List.mem_of_getElem? (i := 152) (by rfl))) rfl
set_option maxRecDepth 100000 in
theorem ww_1942 : Cond.selects RX12 yX12_see yX12_see ∈ mm_gw := mm_gw_in (mm_ch8 (List.mem_of_getElem? (i := 153) (by rfl))) rfl
set_option maxRecDepth 100000 in
theorem ww_1943 : Cond.code yX12_see cX12_see 3 (some .boolean) ∈ mm_gw := mm_gw_in (mm_ch8 (List.mem_of_getElem? (i := 154) (by rfl))) rfl
set_option maxRecDepth 100000 in
theorem ww_1944 : Cond.methodLink RL 111 yX12_leaks ∈ mm_gw := mm_gw_in (mm_ch8 (List.mem_of_getElem? (i := 155) (by rfl))) rfl
set_option maxRecDepth 100000 in
theorem ww_1945 : Cond.instanceMethod yX12_leaks ∈ mm_gw := mm_gw_in (mm_ch8 (List.mem_of_getElem? (i := 156) (by rfl))) rfl
set_option maxRecDepth 100000 in
theorem ww_1946 : Cond.selects RX12 yX12_leaks yX12_leaks ∈ mm_gw := mm_gw_in (mm_ch8 (List.mem_of_getElem? (i := 157) (by rfl))) rfl
set_option maxRecDepth 100000 in
theorem ww_1947 : Cond.code yX12_leaks cX12_leaks 7 (some .int) ∈ mm_gw := mm_gw_in (mm_ch8 (List.mem_of_getElem? (i := 158) (by rfl))) rfl
set_option maxRecDepth 100000 in
theorem ww_1952 : Cond.methodLink RL 115 yX12_lies ∈ mm_gw := mm_gw_in (mm_ch8 (List.mem_of_getElem? (i := 163) (by rfl))) rfl
set_option maxRecDepth 100000 in
theorem ww_1953 : Cond.instanceMethod yX12_lies ∈ mm_gw := mm_gw_in (mm_ch8 (List.mem_of_getElem? (i := 164) (by rfl))) rfl
set_option maxRecDepth 100000 in
theorem ww_1954 : Cond.selects RX12 yX12_lies yX12_lies ∈ mm_gw := mm_gw_in (mm_ch8 (List.mem_of_getElem? (i := 165) (by rfl))) rfl
set_option maxRecDepth 100000 in
theorem ww_1955 : Cond.code yX12_lies cX12_lies 6 (some .int) ∈ mm_gw := mm_gw_in (mm_ch8 (List.mem_of_getElem? (i := 166) (by rfl))) rfl
set_option maxRecDepth 100000 in
theorem ww_1960 : Cond.methodLink RL 119 yX12_mean ∈ mm_gw := mm_gw_in (mm_ch8 (List.mem_of_getElem? (i := 171) (by rfl))) rfl
set_option maxRecDepth 100000 in
theorem ww_1961 : Cond.instanceMethod yX12_mean ∈ mm_gw := mm_gw_in (mm_ch8 (List.mem_of_getElem? (i := 172) (by rfl))) rfl
set_option maxRecDepth 100000 in
theorem ww_1962 : Cond.selects RX12 yX12_mean yX12_mean ∈ mm_gw := mm_gw_in (mm_ch8 (List.mem_of_getElem? (i := 173) (by rfl))) rfl
set_option maxRecDepth 100000 in
theorem ww_1963 : Cond.code yX12_mean cX12_mean 6 (some .int) ∈ mm_gw := mm_gw_in (mm_ch8 (List.mem_of_getElem? (i := 174) (by rfl))) rfl
set_option maxRecDepth 100000 in
theorem ww_1979 : Cond.methodLink RL 123 yX12_holds ∈ mm_gw := mm_gw_in (mm_ch8 (List.mem_of_getElem? (i := 190) (by rfl))) rfl
set_option maxRecDepth 100000 in
theorem ww_1980 : Cond.instanceMethod yX12_holds ∈ mm_gw := mm_gw_in (mm_ch8 (List.mem_of_getElem? (i := 191) (by rfl))) rfl
set_option maxRecDepth 100000 in
theorem ww_1981 : Cond.selects RX12 yX12_holds yX12_holds ∈ mm_gw := mm_gw_in (mm_ch8 (List.mem_of_getElem? (i := 192) (by rfl))) rfl
set_option maxRecDepth 100000 in
theorem ww_1982 : Cond.code yX12_holds cX12_holds 6 (some .int) ∈ mm_gw := mm_gw_in (mm_ch8 (List.mem_of_getElem? (i := 193) (by rfl))) rfl
set_option maxRecDepth 100000 in
theorem ww_1983 : Cond.methodLink RL 127 yX12_settle ∈ mm_gw := mm_gw_in (mm_ch8 (List.mem_of_getElem? (i := 194) (by rfl))) rfl
set_option maxRecDepth 100000 in
theorem ww_1984 : Cond.instanceMethod yX12_settle ∈ mm_gw := mm_gw_in (mm_ch8 (List.mem_of_getElem? (i := 195) (by rfl))) rfl
set_option maxRecDepth 100000 in
theorem ww_1985 : Cond.selects RX12 yX12_settle yX12_settle ∈ mm_gw := mm_gw_in (mm_ch8 (List.mem_of_getElem? (i := 196) (by rfl))) rfl
set_option maxRecDepth 100000 in
theorem ww_1986 : Cond.code yX12_settle cX12_settle 6 (some .int) ∈ mm_gw := mm_gw_in (mm_ch8 (List.mem_of_getElem? (i := 197) (by rfl))) rfl
set_option maxRecDepth 100000 in
theorem ww_1987 : Cond.methodLink RL 131 yX12_rests ∈ mm_gw := mm_gw_in (mm_ch8 (List.mem_of_getElem? (i := 198) (by rfl))) rfl
set_option maxRecDepth 100000 in
theorem ww_1988 : Cond.instanceMethod yX12_rests ∈ mm_gw := mm_gw_in (mm_ch8 (List.mem_of_getElem? (i := 199) (by rfl))) rfl
set_option maxRecDepth 100000 in
theorem ww_1989 : Cond.selects RX12 yX12_rests yX12_rests ∈ mm_gw := mm_gw_in (mm_ch8 (List.mem_of_getElem? (i := 200) (by rfl))) rfl
set_option maxRecDepth 100000 in
theorem ww_1990 : Cond.code yX12_rests cX12_rests 9 (some .int) ∈ mm_gw := mm_gw_in (mm_ch8 (List.mem_of_getElem? (i := 201) (by rfl))) rfl
set_option maxRecDepth 100000 in
theorem ww_2003 : Cond.methodLink RL 135 yX12_years ∈ mm_gw := mm_gw_in (mm_ch8 (List.mem_of_getElem? (i := 214) (by rfl))) rfl
set_option maxRecDepth 100000 in
theorem ww_2004 : Cond.instanceMethod yX12_years ∈ mm_gw := mm_gw_in (mm_ch8 (List.mem_of_getElem? (i := 215) (by rfl))) rfl
set_option maxRecDepth 100000 in
theorem ww_2005 : Cond.selects RX12 yX12_years yX12_years ∈ mm_gw := mm_gw_in (mm_ch8 (List.mem_of_getElem? (i := 216) (by rfl))) rfl
set_option maxRecDepth 100000 in
theorem ww_2006 : Cond.code yX12_years cX12_years 9 (some .int) ∈ mm_gw := mm_gw_in (mm_ch8 (List.mem_of_getElem? (i := 217) (by rfl))) rfl
set_option maxRecDepth 100000 in
theorem ww_2019 : Cond.methodLink RL 139 yX12_mark ∈ mm_gw := mm_gw_in (mm_ch8 (List.mem_of_getElem? (i := 230) (by rfl))) rfl
set_option maxRecDepth 100000 in
theorem ww_2020 : Cond.instanceMethod yX12_mark ∈ mm_gw := mm_gw_in (mm_ch8 (List.mem_of_getElem? (i := 231) (by rfl))) rfl
set_option maxRecDepth 100000 in
theorem ww_2021 : Cond.selects RX12 yX12_mark yX12_mark ∈ mm_gw := mm_gw_in (mm_ch8 (List.mem_of_getElem? (i := 232) (by rfl))) rfl
set_option maxRecDepth 100000 in
theorem ww_2022 : Cond.code yX12_mark cX12_mark 5 (some .boolean) ∈ mm_gw := mm_gw_in (mm_ch8 (List.mem_of_getElem? (i := 233) (by rfl))) rfl
set_option maxRecDepth 100000 in
theorem ww_2027 : Cond.methodLink RL 143 yX12_count ∈ mm_gw := mm_gw_in (mm_ch8 (List.mem_of_getElem? (i := 238) (by rfl))) rfl
set_option maxRecDepth 100000 in
theorem ww_2028 : Cond.instanceMethod yX12_count ∈ mm_gw := mm_gw_in (mm_ch8 (List.mem_of_getElem? (i := 239) (by rfl))) rfl
set_option maxRecDepth 100000 in
theorem ww_2029 : Cond.selects RX12 yX12_count yX12_count ∈ mm_gw := mm_gw_in (mm_ch9 (List.mem_of_getElem? (i := 0) (by rfl))) rfl
set_option maxRecDepth 100000 in
theorem ww_2030 : Cond.code yX12_count cX12_count 2 (some .int) ∈ mm_gw := mm_gw_in (mm_ch9 (List.mem_of_getElem? (i := 1) (by rfl))) rfl
set_option maxRecDepth 100000 in
theorem ww_2031 : Cond.constantLong RL 23 4294967295 ∈ mm_gw := mm_gw_in (mm_ch9 (List.mem_of_getElem? (i := 2) (by rfl))) rfl
theorem bp_31 : (Int8.ofInt 31).toInt32 = 31 := by decide +kernel
theorem cal_M_aware : mm_callee Y_M_aware 3 := ⟨ww_1828, ww_119, ⟨by decide +kernel, by decide +kernel, by decide +kernel⟩, by decide⟩
theorem cal_M_count : mm_callee Y_M_count 1 := ⟨ww_2030, ww_119, ⟨by decide +kernel, by decide +kernel, by decide +kernel⟩, by decide⟩
theorem cal_M_ear : mm_callee Y_M_ear 2 := ⟨ww_1836, ww_119, ⟨by decide +kernel, by decide +kernel, by decide +kernel⟩, by decide⟩
theorem cal_M_feed : mm_callee Y_M_feed 3 := ⟨ww_1577, ww_119, ⟨by decide +kernel, by decide +kernel, by decide +kernel⟩, by decide⟩
theorem cal_M_gossip : mm_callee Y_M_gossip 0 := ⟨ww_1740, ww_119, ⟨by decide +kernel, by decide +kernel, by decide +kernel⟩, by decide⟩
theorem cal_M_holds : mm_callee Y_M_holds 2 := ⟨ww_1982, ww_119, ⟨by decide +kernel, by decide +kernel, by decide +kernel⟩, by decide⟩
theorem cal_M_judged : mm_callee Y_M_judged 1 := ⟨ww_1900, ww_119, ⟨by decide +kernel, by decide +kernel, by decide +kernel⟩, by decide⟩
theorem cal_M_leaks : mm_callee Y_M_leaks 1 := ⟨ww_1947, ww_119, ⟨by decide +kernel, by decide +kernel, by decide +kernel⟩, by decide⟩
theorem cal_M_least : mm_callee Y_M_least 1 := ⟨ww_1916, ww_119, ⟨by decide +kernel, by decide +kernel, by decide +kernel⟩, by decide⟩
theorem cal_M_lend : mm_callee Y_M_lend 3 := ⟨ww_1892, ww_119, ⟨by decide +kernel, by decide +kernel, by decide +kernel⟩, by decide⟩
theorem cal_M_lies : mm_callee Y_M_lies 1 := ⟨ww_1955, ww_119, ⟨by decide +kernel, by decide +kernel, by decide +kernel⟩, by decide⟩
theorem cal_M_mark : mm_callee Y_M_mark 2 := ⟨ww_2022, ww_119, ⟨by decide +kernel, by decide +kernel, by decide +kernel⟩, by decide⟩
theorem cal_M_mean : mm_callee Y_M_mean 2 := ⟨ww_1963, ww_119, ⟨by decide +kernel, by decide +kernel, by decide +kernel⟩, by decide⟩
theorem cal_M_pay : mm_callee Y_M_pay 2 := ⟨ww_1868, ww_119, ⟨by decide +kernel, by decide +kernel, by decide +kernel⟩, by decide⟩
theorem cal_M_payers : mm_callee Y_M_payers 0 := ⟨ww_1927, ww_119, ⟨by decide +kernel, by decide +kernel, by decide +kernel⟩, by decide⟩
theorem cal_M_person : mm_callee Y_M_person 2 := ⟨ww_1764, ww_119, ⟨by decide +kernel, by decide +kernel, by decide +kernel⟩, by decide⟩
theorem cal_M_plot : mm_callee Y_M_plot 4 := ⟨ww_1935, ww_119, ⟨by decide +kernel, by decide +kernel, by decide +kernel⟩, by decide⟩
theorem cal_M_quarter : mm_callee Y_M_quarter 0 := ⟨ww_1884, ww_119, ⟨by decide +kernel, by decide +kernel, by decide +kernel⟩, by decide⟩
theorem cal_M_rests : mm_callee Y_M_rests 2 := ⟨ww_1990, ww_119, ⟨by decide +kernel, by decide +kernel, by decide +kernel⟩, by decide⟩
theorem cal_M_rise : mm_callee Y_M_rise 1 := ⟨ww_1880, ww_119, ⟨by decide +kernel, by decide +kernel, by decide +kernel⟩, by decide⟩
theorem cal_M_secret : mm_callee Y_M_secret 2 := ⟨ww_1820, ww_119, ⟨by decide +kernel, by decide +kernel, by decide +kernel⟩, by decide⟩
theorem cal_M_see : mm_callee Y_M_see 2 := ⟨ww_1943, ww_119, ⟨by decide +kernel, by decide +kernel, by decide +kernel⟩, by decide⟩
theorem cal_M_settle : mm_callee Y_M_settle 0 := ⟨ww_1986, ww_119, ⟨by decide +kernel, by decide +kernel, by decide +kernel⟩, by decide⟩
theorem cal_M_tell : mm_callee Y_M_tell 3 := ⟨ww_1845, ww_119, ⟨by decide +kernel, by decide +kernel, by decide +kernel⟩, by decide⟩
theorem cal_M_thrown : mm_callee Y_M_thrown 0 := ⟨ww_1573, ww_119, ⟨by decide +kernel, by decide +kernel, by decide +kernel⟩, by decide⟩
theorem cal_M_town : mm_callee Y_M_town 0 := ⟨ww_1582, ww_119, ⟨by decide +kernel, by decide +kernel, by decide +kernel⟩, by decide⟩
theorem cal_M_undo : mm_callee Y_M_undo 0 := ⟨ww_1896, ww_119, ⟨by decide +kernel, by decide +kernel, by decide +kernel⟩, by decide⟩
theorem cal_M_years : mm_callee Y_M_years 3 := ⟨ww_2006, ww_119, ⟨by decide +kernel, by decide +kernel, by decide +kernel⟩, by decide⟩
theorem cal_X_aware : mm_callee Y_X_aware 3 := ⟨ww_927, ww_110, ⟨by decide +kernel, by decide +kernel, by decide +kernel⟩, by decide⟩
theorem cal_X_count : mm_callee Y_X_count 1 := ⟨ww_1244, ww_110, ⟨by decide +kernel, by decide +kernel, by decide +kernel⟩, by decide⟩
theorem cal_X_ear : mm_callee Y_X_ear 2 := ⟨ww_943, ww_110, ⟨by decide +kernel, by decide +kernel, by decide +kernel⟩, by decide⟩
theorem cal_X_feed : mm_callee Y_X_feed 3 := ⟨ww_536, ww_110, ⟨by decide +kernel, by decide +kernel, by decide +kernel⟩, by decide⟩
theorem cal_X_gossip : mm_callee Y_X_gossip 0 := ⟨ww_841, ww_110, ⟨by decide +kernel, by decide +kernel, by decide +kernel⟩, by decide⟩
theorem cal_X_holds : mm_callee Y_X_holds 2 := ⟨ww_1164, ww_110, ⟨by decide +kernel, by decide +kernel, by decide +kernel⟩, by decide⟩
theorem cal_X_judged : mm_callee Y_X_judged 1 := ⟨ww_1035, ww_110, ⟨by decide +kernel, by decide +kernel, by decide +kernel⟩, by decide⟩
theorem cal_X_leaks : mm_callee Y_X_leaks 1 := ⟨ww_1093, ww_110, ⟨by decide +kernel, by decide +kernel, by decide +kernel⟩, by decide⟩
theorem cal_X_least : mm_callee Y_X_least 1 := ⟨ww_1052, ww_110, ⟨by decide +kernel, by decide +kernel, by decide +kernel⟩, by decide⟩
theorem cal_X_lend : mm_callee Y_X_lend 3 := ⟨ww_1016, ww_110, ⟨by decide +kernel, by decide +kernel, by decide +kernel⟩, by decide⟩
theorem cal_X_lies : mm_callee Y_X_lies 1 := ⟨ww_1105, ww_110, ⟨by decide +kernel, by decide +kernel, by decide +kernel⟩, by decide⟩
theorem cal_X_mark : mm_callee Y_X_mark 2 := ⟨ww_1235, ww_110, ⟨by decide +kernel, by decide +kernel, by decide +kernel⟩, by decide⟩
theorem cal_X_mean : mm_callee Y_X_mean 2 := ⟨ww_1117, ww_110, ⟨by decide +kernel, by decide +kernel, by decide +kernel⟩, by decide⟩
theorem cal_X_pay : mm_callee Y_X_pay 2 := ⟨ww_979, ww_110, ⟨by decide +kernel, by decide +kernel, by decide +kernel⟩, by decide⟩
theorem cal_X_payers : mm_callee Y_X_payers 0 := ⟨ww_1071, ww_110, ⟨by decide +kernel, by decide +kernel, by decide +kernel⟩, by decide⟩
theorem cal_X_quarter : mm_callee Y_X_quarter 0 := ⟨ww_1008, ww_110, ⟨by decide +kernel, by decide +kernel, by decide +kernel⟩, by decide⟩
theorem cal_X_rests : mm_callee Y_X_rests 2 := ⟨ww_1181, ww_110, ⟨by decide +kernel, by decide +kernel, by decide +kernel⟩, by decide⟩
theorem cal_X_rise : mm_callee Y_X_rise 1 := ⟨ww_1004, ww_110, ⟨by decide +kernel, by decide +kernel, by decide +kernel⟩, by decide⟩
theorem cal_X_secret : mm_callee Y_X_secret 2 := ⟨ww_882, ww_110, ⟨by decide +kernel, by decide +kernel, by decide +kernel⟩, by decide⟩
theorem cal_X_see : mm_callee Y_X_see 2 := ⟨ww_1085, ww_110, ⟨by decide +kernel, by decide +kernel, by decide +kernel⟩, by decide⟩
theorem cal_X_settle : mm_callee Y_X_settle 0 := ⟨ww_1172, ww_110, ⟨by decide +kernel, by decide +kernel, by decide +kernel⟩, by decide⟩
theorem cal_X_tell : mm_callee Y_X_tell 3 := ⟨ww_952, ww_110, ⟨by decide +kernel, by decide +kernel, by decide +kernel⟩, by decide⟩
theorem cal_X_town : mm_callee Y_X_town 0 := ⟨ww_544, ww_110, ⟨by decide +kernel, by decide +kernel, by decide +kernel⟩, by decide⟩
theorem cal_X_undo : mm_callee Y_X_undo 0 := ⟨ww_1028, ww_110, ⟨by decide +kernel, by decide +kernel, by decide +kernel⟩, by decide⟩
theorem cal_X_years : mm_callee Y_X_years 3 := ⟨ww_1211, ww_110, ⟨by decide +kernel, by decide +kernel, by decide +kernel⟩, by decide⟩
theorem ic_7 : Int32.ofInt 7 = 7 := by decide +kernel
theorem ix_0_1 : mm_ix 0 1 = some 0 := by decide +kernel
theorem d_L_law_20 : decode code 20 = .ok (.iconst 0, 1) := by decide +kernel
theorem d_L_law_21 : decode code 21 = .ok (.istore 4, 2) := by decide +kernel
theorem d_L_law_23 : decode code 23 = .ok (.iload 4, 2) := by decide +kernel
theorem d_L_law_25 : decode code 25 = .ok (.aload_n 0, 1) := by decide +kernel
theorem d_L_law_26 : decode code 26 = .ok (.arraylength, 1) := by decide +kernel
theorem d_L_law_27 : decode code 27 = .ok (.bipush 7, 2) := by decide +kernel
theorem d_L_law_29 : decode code 29 = .ok (.isub, 1) := by decide +kernel
theorem d_L_law_30 : decode code 30 = .ok (.if_icmp .gt 1199, 3) := by decide +kernel
theorem d_L_law_33 : decode code 33 = .ok (.aload_n 0, 1) := by decide +kernel
theorem d_L_law_34 : decode code 34 = .ok (.iload 4, 2) := by decide +kernel
theorem d_L_law_36 : decode code 36 = .ok (.iaload, 1) := by decide +kernel
theorem d_L_law_37 : decode code 37 = .ok (.bipush 31, 2) := by decide +kernel
theorem d_L_law_39 : decode code 39 = .ok (.iand, 1) := by decide +kernel
theorem d_L_law_40 : decode code 40 = .ok (.tableswitch 1183 0 26 #[124, 271, 284, 297, 365, 402, 451, 488, 537, 574, 599, 612, 661, 674, 699, 724, 737, 829, 882, 907, 932, 969, 1006, 1019, 1056, 1105, 1158], 124) := by decide +kernel
theorem d_L_law_164 : decode code 164 = .ok (.aload_n 1, 1) := by decide +kernel
theorem d_L_law_165 : decode code 165 = .ok (.aload_n 0, 1) := by decide +kernel
theorem d_L_law_166 : decode code 166 = .ok (.iload 4, 2) := by decide +kernel
theorem d_L_law_168 : decode code 168 = .ok (.iconst 1, 1) := by decide +kernel
theorem d_L_law_169 : decode code 169 = .ok (.iadd, 1) := by decide +kernel
theorem d_L_law_170 : decode code 170 = .ok (.iaload, 1) := by decide +kernel
theorem d_L_law_171 : decode code 171 = .ok (.i2l, 1) := by decide +kernel
theorem d_L_law_172 : decode code 172 = .ok (.bipush 32, 2) := by decide +kernel
theorem d_L_law_174 : decode code 174 = .ok (.lshl, 1) := by decide +kernel
theorem d_L_law_175 : decode code 175 = .ok (.aload_n 0, 1) := by decide +kernel
theorem d_L_law_176 : decode code 176 = .ok (.iload 4, 2) := by decide +kernel
theorem d_L_law_178 : decode code 178 = .ok (.iconst 2, 1) := by decide +kernel
theorem d_L_law_179 : decode code 179 = .ok (.iadd, 1) := by decide +kernel
theorem d_L_law_180 : decode code 180 = .ok (.iaload, 1) := by decide +kernel
theorem d_L_law_181 : decode code 181 = .ok (.i2l, 1) := by decide +kernel
theorem d_L_law_182 : decode code 182 = .ok (.ldc2_w 23, 3) := by decide +kernel
theorem d_L_law_185 : decode code 185 = .ok (.land, 1) := by decide +kernel
theorem d_L_law_186 : decode code 186 = .ok (.lor, 1) := by decide +kernel
theorem d_L_law_187 : decode code 187 = .ok (.aload_n 0, 1) := by decide +kernel
theorem d_L_law_188 : decode code 188 = .ok (.iload 4, 2) := by decide +kernel
theorem d_L_law_190 : decode code 190 = .ok (.iconst 3, 1) := by decide +kernel
theorem d_L_law_191 : decode code 191 = .ok (.iadd, 1) := by decide +kernel
theorem d_L_law_192 : decode code 192 = .ok (.iaload, 1) := by decide +kernel
theorem d_L_law_193 : decode code 193 = .ok (.i2l, 1) := by decide +kernel
theorem d_L_law_194 : decode code 194 = .ok (.bipush 32, 2) := by decide +kernel
theorem d_L_law_196 : decode code 196 = .ok (.lshl, 1) := by decide +kernel
theorem d_L_law_197 : decode code 197 = .ok (.aload_n 0, 1) := by decide +kernel
theorem d_L_law_198 : decode code 198 = .ok (.iload 4, 2) := by decide +kernel
theorem d_L_law_200 : decode code 200 = .ok (.iconst 4, 1) := by decide +kernel
theorem d_L_law_201 : decode code 201 = .ok (.iadd, 1) := by decide +kernel
theorem d_L_law_202 : decode code 202 = .ok (.iaload, 1) := by decide +kernel
theorem d_L_law_203 : decode code 203 = .ok (.i2l, 1) := by decide +kernel
theorem d_L_law_204 : decode code 204 = .ok (.ldc2_w 23, 3) := by decide +kernel
theorem d_L_law_207 : decode code 207 = .ok (.land, 1) := by decide +kernel
theorem d_L_law_208 : decode code 208 = .ok (.lor, 1) := by decide +kernel
theorem d_L_law_209 : decode code 209 = .ok (.aload_n 0, 1) := by decide +kernel
theorem d_L_law_210 : decode code 210 = .ok (.iload 4, 2) := by decide +kernel
theorem d_L_law_212 : decode code 212 = .ok (.iconst 5, 1) := by decide +kernel
theorem d_L_law_213 : decode code 213 = .ok (.iadd, 1) := by decide +kernel
theorem d_L_law_214 : decode code 214 = .ok (.iaload, 1) := by decide +kernel
theorem d_L_law_215 : decode code 215 = .ok (.i2l, 1) := by decide +kernel
theorem d_L_law_216 : decode code 216 = .ok (.bipush 32, 2) := by decide +kernel
theorem d_L_law_218 : decode code 218 = .ok (.lshl, 1) := by decide +kernel
theorem d_L_law_219 : decode code 219 = .ok (.aload_n 0, 1) := by decide +kernel
theorem d_L_law_220 : decode code 220 = .ok (.iload 4, 2) := by decide +kernel
theorem d_L_law_222 : decode code 222 = .ok (.bipush 6, 2) := by decide +kernel
theorem d_L_law_224 : decode code 224 = .ok (.iadd, 1) := by decide +kernel
theorem d_L_law_225 : decode code 225 = .ok (.iaload, 1) := by decide +kernel
theorem d_L_law_226 : decode code 226 = .ok (.i2l, 1) := by decide +kernel
theorem d_L_law_227 : decode code 227 = .ok (.ldc2_w 23, 3) := by decide +kernel
theorem d_L_law_230 : decode code 230 = .ok (.land, 1) := by decide +kernel
theorem d_L_law_231 : decode code 231 = .ok (.lor, 1) := by decide +kernel
theorem d_L_law_232 : decode code 232 = .ok (.invokevirtual 25, 3) := by decide +kernel
theorem d_L_law_235 : decode code 235 = .ok (.aload_n 2, 1) := by decide +kernel
theorem d_L_law_236 : decode code 236 = .ok (.aload_n 0, 1) := by decide +kernel
theorem d_L_law_237 : decode code 237 = .ok (.iload 4, 2) := by decide +kernel
theorem d_L_law_239 : decode code 239 = .ok (.iconst 1, 1) := by decide +kernel
theorem d_L_law_240 : decode code 240 = .ok (.iadd, 1) := by decide +kernel
theorem d_L_law_241 : decode code 241 = .ok (.iaload, 1) := by decide +kernel
theorem d_L_law_242 : decode code 242 = .ok (.i2l, 1) := by decide +kernel
theorem d_L_law_243 : decode code 243 = .ok (.bipush 32, 2) := by decide +kernel
theorem d_L_law_245 : decode code 245 = .ok (.lshl, 1) := by decide +kernel
theorem d_L_law_246 : decode code 246 = .ok (.aload_n 0, 1) := by decide +kernel
theorem d_L_law_247 : decode code 247 = .ok (.iload 4, 2) := by decide +kernel
theorem d_L_law_249 : decode code 249 = .ok (.iconst 2, 1) := by decide +kernel
theorem d_L_law_250 : decode code 250 = .ok (.iadd, 1) := by decide +kernel
theorem d_L_law_251 : decode code 251 = .ok (.iaload, 1) := by decide +kernel
theorem d_L_law_252 : decode code 252 = .ok (.i2l, 1) := by decide +kernel
theorem d_L_law_253 : decode code 253 = .ok (.ldc2_w 23, 3) := by decide +kernel
theorem d_L_law_256 : decode code 256 = .ok (.land, 1) := by decide +kernel
theorem d_L_law_257 : decode code 257 = .ok (.lor, 1) := by decide +kernel
theorem d_L_law_258 : decode code 258 = .ok (.aload_n 0, 1) := by decide +kernel
theorem d_L_law_259 : decode code 259 = .ok (.iload 4, 2) := by decide +kernel
theorem d_L_law_261 : decode code 261 = .ok (.iconst 3, 1) := by decide +kernel
theorem d_L_law_262 : decode code 262 = .ok (.iadd, 1) := by decide +kernel
theorem d_L_law_263 : decode code 263 = .ok (.iaload, 1) := by decide +kernel
theorem d_L_law_264 : decode code 264 = .ok (.i2l, 1) := by decide +kernel
theorem d_L_law_265 : decode code 265 = .ok (.bipush 32, 2) := by decide +kernel
theorem d_L_law_267 : decode code 267 = .ok (.lshl, 1) := by decide +kernel
theorem d_L_law_268 : decode code 268 = .ok (.aload_n 0, 1) := by decide +kernel
theorem d_L_law_269 : decode code 269 = .ok (.iload 4, 2) := by decide +kernel
theorem d_L_law_271 : decode code 271 = .ok (.iconst 4, 1) := by decide +kernel
theorem d_L_law_272 : decode code 272 = .ok (.iadd, 1) := by decide +kernel
theorem d_L_law_273 : decode code 273 = .ok (.iaload, 1) := by decide +kernel
theorem d_L_law_274 : decode code 274 = .ok (.i2l, 1) := by decide +kernel
theorem d_L_law_275 : decode code 275 = .ok (.ldc2_w 23, 3) := by decide +kernel
theorem d_L_law_278 : decode code 278 = .ok (.land, 1) := by decide +kernel
theorem d_L_law_279 : decode code 279 = .ok (.lor, 1) := by decide +kernel
theorem d_L_law_280 : decode code 280 = .ok (.aload_n 0, 1) := by decide +kernel
theorem d_L_law_281 : decode code 281 = .ok (.iload 4, 2) := by decide +kernel
theorem d_L_law_283 : decode code 283 = .ok (.iconst 5, 1) := by decide +kernel
theorem d_L_law_284 : decode code 284 = .ok (.iadd, 1) := by decide +kernel
theorem d_L_law_285 : decode code 285 = .ok (.iaload, 1) := by decide +kernel
theorem d_L_law_286 : decode code 286 = .ok (.i2l, 1) := by decide +kernel
theorem d_L_law_287 : decode code 287 = .ok (.bipush 32, 2) := by decide +kernel
theorem d_L_law_289 : decode code 289 = .ok (.lshl, 1) := by decide +kernel
theorem d_L_law_290 : decode code 290 = .ok (.aload_n 0, 1) := by decide +kernel
theorem d_L_law_291 : decode code 291 = .ok (.iload 4, 2) := by decide +kernel
theorem d_L_law_293 : decode code 293 = .ok (.bipush 6, 2) := by decide +kernel
theorem d_L_law_295 : decode code 295 = .ok (.iadd, 1) := by decide +kernel
theorem d_L_law_296 : decode code 296 = .ok (.iaload, 1) := by decide +kernel
theorem d_L_law_297 : decode code 297 = .ok (.i2l, 1) := by decide +kernel
theorem d_L_law_298 : decode code 298 = .ok (.ldc2_w 23, 3) := by decide +kernel
theorem d_L_law_301 : decode code 301 = .ok (.land, 1) := by decide +kernel
theorem d_L_law_302 : decode code 302 = .ok (.lor, 1) := by decide +kernel
theorem d_L_law_303 : decode code 303 = .ok (.invokevirtual 29, 3) := by decide +kernel
theorem d_L_law_306 : decode code 306 = .ok (.if_icmp .eq 917, 3) := by decide +kernel
theorem d_L_law_309 : decode code 309 = .ok (.iconst 0, 1) := by decide +kernel
theorem d_L_law_311 : decode code 311 = .ok (.aload_n 1, 1) := by decide +kernel
theorem d_L_law_312 : decode code 312 = .ok (.invokevirtual 30, 3) := by decide +kernel
theorem d_L_law_315 : decode code 315 = .ok (.aload_n 2, 1) := by decide +kernel
theorem d_L_law_316 : decode code 316 = .ok (.invokevirtual 34, 3) := by decide +kernel
theorem d_L_law_319 : decode code 319 = .ok (.if_icmp .eq 904, 3) := by decide +kernel
theorem d_L_law_322 : decode code 322 = .ok (.iconst 0, 1) := by decide +kernel
theorem d_L_law_324 : decode code 324 = .ok (.aload_n 1, 1) := by decide +kernel
theorem d_L_law_325 : decode code 325 = .ok (.invokevirtual 35, 3) := by decide +kernel
theorem d_L_law_328 : decode code 328 = .ok (.aload_n 2, 1) := by decide +kernel
theorem d_L_law_329 : decode code 329 = .ok (.invokevirtual 38, 3) := by decide +kernel
theorem d_L_law_332 : decode code 332 = .ok (.if_icmp .eq 891, 3) := by decide +kernel
theorem d_L_law_335 : decode code 335 = .ok (.iconst 0, 1) := by decide +kernel
theorem d_L_law_337 : decode code 337 = .ok (.aload_n 1, 1) := by decide +kernel
theorem d_L_law_338 : decode code 338 = .ok (.aload_n 0, 1) := by decide +kernel
theorem d_L_law_339 : decode code 339 = .ok (.iload 4, 2) := by decide +kernel
theorem d_L_law_341 : decode code 341 = .ok (.iconst 1, 1) := by decide +kernel
theorem d_L_law_342 : decode code 342 = .ok (.iadd, 1) := by decide +kernel
theorem d_L_law_343 : decode code 343 = .ok (.iaload, 1) := by decide +kernel
theorem d_L_law_344 : decode code 344 = .ok (.aload_n 0, 1) := by decide +kernel
theorem d_L_law_345 : decode code 345 = .ok (.iload 4, 2) := by decide +kernel
theorem d_L_law_347 : decode code 347 = .ok (.iconst 2, 1) := by decide +kernel
theorem d_L_law_348 : decode code 348 = .ok (.iadd, 1) := by decide +kernel
theorem d_L_law_349 : decode code 349 = .ok (.iaload, 1) := by decide +kernel
theorem d_L_law_350 : decode code 350 = .ok (.aload_n 3, 1) := by decide +kernel
theorem d_L_law_351 : decode code 351 = .ok (.invokestatic 39, 3) := by decide +kernel
theorem d_L_law_354 : decode code 354 = .ok (.istore 5, 2) := by decide +kernel
theorem d_L_law_356 : decode code 356 = .ok (.aload_n 2, 1) := by decide +kernel
theorem d_L_law_357 : decode code 357 = .ok (.aload_n 0, 1) := by decide +kernel
theorem d_L_law_358 : decode code 358 = .ok (.iload 4, 2) := by decide +kernel
theorem d_L_law_360 : decode code 360 = .ok (.iconst 1, 1) := by decide +kernel
theorem d_L_law_361 : decode code 361 = .ok (.iadd, 1) := by decide +kernel
theorem d_L_law_362 : decode code 362 = .ok (.iaload, 1) := by decide +kernel
theorem d_L_law_363 : decode code 363 = .ok (.aload_n 0, 1) := by decide +kernel
theorem d_L_law_364 : decode code 364 = .ok (.iload 4, 2) := by decide +kernel
theorem d_L_law_366 : decode code 366 = .ok (.iconst 2, 1) := by decide +kernel
theorem d_L_law_367 : decode code 367 = .ok (.iadd, 1) := by decide +kernel
theorem d_L_law_368 : decode code 368 = .ok (.iaload, 1) := by decide +kernel
theorem d_L_law_369 : decode code 369 = .ok (.invokevirtual 44, 3) := by decide +kernel
theorem d_L_law_372 : decode code 372 = .ok (.istore 6, 2) := by decide +kernel
theorem d_L_law_374 : decode code 374 = .ok (.aload_n 2, 1) := by decide +kernel
theorem d_L_law_375 : decode code 375 = .ok (.invokevirtual 45, 3) := by decide +kernel
theorem d_L_law_378 : decode code 378 = .ok (.iload 5, 2) := by decide +kernel
theorem d_L_law_380 : decode code 380 = .ok (.if_icmp .eq 5, 3) := by decide +kernel
theorem d_L_law_383 : decode code 383 = .ok (.iconst 0, 1) := by decide +kernel
theorem d_L_law_385 : decode code 385 = .ok (.iload 5, 2) := by decide +kernel
theorem d_L_law_387 : decode code 387 = .ok (.ifCond .ne 15, 3) := by decide +kernel
theorem d_L_law_390 : decode code 390 = .ok (.aload_n 3, 1) := by decide +kernel
theorem d_L_law_391 : decode code 391 = .ok (.iconst 0, 1) := by decide +kernel
theorem d_L_law_392 : decode code 392 = .ok (.laload, 1) := by decide +kernel
theorem d_L_law_393 : decode code 393 = .ok (.iload 6, 2) := by decide +kernel
theorem d_L_law_395 : decode code 395 = .ok (.i2l, 1) := by decide +kernel
theorem d_L_law_396 : decode code 396 = .ok (.lcmp, 1) := by decide +kernel
theorem d_L_law_397 : decode code 397 = .ok (.ifCond .eq 5, 3) := by decide +kernel
theorem d_L_law_400 : decode code 400 = .ok (.iconst 0, 1) := by decide +kernel
theorem d_L_law_402 : decode code 402 = .ok (.goto 821, 3) := by decide +kernel
theorem d_L_law_405 : decode code 405 = .ok (.aload_n 1, 1) := by decide +kernel
theorem d_L_law_406 : decode code 406 = .ok (.aload_n 0, 1) := by decide +kernel
theorem d_L_law_407 : decode code 407 = .ok (.iload 4, 2) := by decide +kernel
theorem d_L_law_409 : decode code 409 = .ok (.iconst 1, 1) := by decide +kernel
theorem d_L_law_410 : decode code 410 = .ok (.iadd, 1) := by decide +kernel
theorem d_L_law_411 : decode code 411 = .ok (.iaload, 1) := by decide +kernel
theorem d_L_law_412 : decode code 412 = .ok (.aload_n 0, 1) := by decide +kernel
theorem d_L_law_413 : decode code 413 = .ok (.iload 4, 2) := by decide +kernel
theorem d_L_law_415 : decode code 415 = .ok (.iconst 2, 1) := by decide +kernel
theorem d_L_law_416 : decode code 416 = .ok (.iadd, 1) := by decide +kernel
theorem d_L_law_417 : decode code 417 = .ok (.iaload, 1) := by decide +kernel
theorem d_L_law_418 : decode code 418 = .ok (.invokevirtual 48, 3) := by decide +kernel
theorem d_L_law_421 : decode code 421 = .ok (.aload_n 2, 1) := by decide +kernel
theorem d_L_law_422 : decode code 422 = .ok (.aload_n 0, 1) := by decide +kernel
theorem d_L_law_423 : decode code 423 = .ok (.iload 4, 2) := by decide +kernel
theorem d_L_law_425 : decode code 425 = .ok (.iconst 1, 1) := by decide +kernel
theorem d_L_law_426 : decode code 426 = .ok (.iadd, 1) := by decide +kernel
theorem d_L_law_427 : decode code 427 = .ok (.iaload, 1) := by decide +kernel
theorem d_L_law_428 : decode code 428 = .ok (.aload_n 0, 1) := by decide +kernel
theorem d_L_law_429 : decode code 429 = .ok (.iload 4, 2) := by decide +kernel
theorem d_L_law_431 : decode code 431 = .ok (.iconst 2, 1) := by decide +kernel
theorem d_L_law_432 : decode code 432 = .ok (.iadd, 1) := by decide +kernel
theorem d_L_law_433 : decode code 433 = .ok (.iaload, 1) := by decide +kernel
theorem d_L_law_434 : decode code 434 = .ok (.invokevirtual 51, 3) := by decide +kernel
theorem d_L_law_437 : decode code 437 = .ok (.if_icmp .eq 786, 3) := by decide +kernel
theorem d_L_law_440 : decode code 440 = .ok (.iconst 0, 1) := by decide +kernel
theorem d_L_law_442 : decode code 442 = .ok (.aload_n 1, 1) := by decide +kernel
theorem d_L_law_443 : decode code 443 = .ok (.aload_n 0, 1) := by decide +kernel
theorem d_L_law_444 : decode code 444 = .ok (.iload 4, 2) := by decide +kernel
theorem d_L_law_446 : decode code 446 = .ok (.iconst 1, 1) := by decide +kernel
theorem d_L_law_447 : decode code 447 = .ok (.iadd, 1) := by decide +kernel
theorem d_L_law_448 : decode code 448 = .ok (.iaload, 1) := by decide +kernel
theorem d_L_law_449 : decode code 449 = .ok (.aload_n 0, 1) := by decide +kernel
theorem d_L_law_450 : decode code 450 = .ok (.iload 4, 2) := by decide +kernel
theorem d_L_law_452 : decode code 452 = .ok (.iconst 2, 1) := by decide +kernel
theorem d_L_law_453 : decode code 453 = .ok (.iadd, 1) := by decide +kernel
theorem d_L_law_454 : decode code 454 = .ok (.iaload, 1) := by decide +kernel
theorem d_L_law_455 : decode code 455 = .ok (.aload_n 0, 1) := by decide +kernel
theorem d_L_law_456 : decode code 456 = .ok (.iload 4, 2) := by decide +kernel
theorem d_L_law_458 : decode code 458 = .ok (.iconst 3, 1) := by decide +kernel
theorem d_L_law_459 : decode code 459 = .ok (.iadd, 1) := by decide +kernel
theorem d_L_law_460 : decode code 460 = .ok (.iaload, 1) := by decide +kernel
theorem d_L_law_461 : decode code 461 = .ok (.invokevirtual 52, 3) := by decide +kernel
theorem d_L_law_464 : decode code 464 = .ok (.aload_n 2, 1) := by decide +kernel
theorem d_L_law_465 : decode code 465 = .ok (.aload_n 0, 1) := by decide +kernel
theorem d_L_law_466 : decode code 466 = .ok (.iload 4, 2) := by decide +kernel
theorem d_L_law_468 : decode code 468 = .ok (.iconst 1, 1) := by decide +kernel
theorem d_L_law_469 : decode code 469 = .ok (.iadd, 1) := by decide +kernel
theorem d_L_law_470 : decode code 470 = .ok (.iaload, 1) := by decide +kernel
theorem d_L_law_471 : decode code 471 = .ok (.aload_n 0, 1) := by decide +kernel
theorem d_L_law_472 : decode code 472 = .ok (.iload 4, 2) := by decide +kernel
theorem d_L_law_474 : decode code 474 = .ok (.iconst 2, 1) := by decide +kernel
theorem d_L_law_475 : decode code 475 = .ok (.iadd, 1) := by decide +kernel
theorem d_L_law_476 : decode code 476 = .ok (.iaload, 1) := by decide +kernel
theorem d_L_law_477 : decode code 477 = .ok (.aload_n 0, 1) := by decide +kernel
theorem d_L_law_478 : decode code 478 = .ok (.iload 4, 2) := by decide +kernel
theorem d_L_law_480 : decode code 480 = .ok (.iconst 3, 1) := by decide +kernel
theorem d_L_law_481 : decode code 481 = .ok (.iadd, 1) := by decide +kernel
theorem d_L_law_482 : decode code 482 = .ok (.iaload, 1) := by decide +kernel
theorem d_L_law_483 : decode code 483 = .ok (.invokevirtual 56, 3) := by decide +kernel
theorem d_L_law_486 : decode code 486 = .ok (.if_icmp .eq 737, 3) := by decide +kernel
theorem d_L_law_489 : decode code 489 = .ok (.iconst 0, 1) := by decide +kernel
theorem d_L_law_491 : decode code 491 = .ok (.aload_n 1, 1) := by decide +kernel
theorem d_L_law_492 : decode code 492 = .ok (.aload_n 0, 1) := by decide +kernel
theorem d_L_law_493 : decode code 493 = .ok (.iload 4, 2) := by decide +kernel
theorem d_L_law_495 : decode code 495 = .ok (.iconst 1, 1) := by decide +kernel
theorem d_L_law_496 : decode code 496 = .ok (.iadd, 1) := by decide +kernel
theorem d_L_law_497 : decode code 497 = .ok (.iaload, 1) := by decide +kernel
theorem d_L_law_498 : decode code 498 = .ok (.aload_n 0, 1) := by decide +kernel
theorem d_L_law_499 : decode code 499 = .ok (.iload 4, 2) := by decide +kernel
theorem d_L_law_501 : decode code 501 = .ok (.iconst 2, 1) := by decide +kernel
theorem d_L_law_502 : decode code 502 = .ok (.iadd, 1) := by decide +kernel
theorem d_L_law_503 : decode code 503 = .ok (.iaload, 1) := by decide +kernel
theorem d_L_law_504 : decode code 504 = .ok (.invokevirtual 57, 3) := by decide +kernel
theorem d_L_law_507 : decode code 507 = .ok (.aload_n 2, 1) := by decide +kernel
theorem d_L_law_508 : decode code 508 = .ok (.aload_n 0, 1) := by decide +kernel
theorem d_L_law_509 : decode code 509 = .ok (.iload 4, 2) := by decide +kernel
theorem d_L_law_511 : decode code 511 = .ok (.iconst 1, 1) := by decide +kernel
theorem d_L_law_512 : decode code 512 = .ok (.iadd, 1) := by decide +kernel
theorem d_L_law_513 : decode code 513 = .ok (.iaload, 1) := by decide +kernel
theorem d_L_law_514 : decode code 514 = .ok (.aload_n 0, 1) := by decide +kernel
theorem d_L_law_515 : decode code 515 = .ok (.iload 4, 2) := by decide +kernel
theorem d_L_law_517 : decode code 517 = .ok (.iconst 2, 1) := by decide +kernel
theorem d_L_law_518 : decode code 518 = .ok (.iadd, 1) := by decide +kernel
theorem d_L_law_519 : decode code 519 = .ok (.iaload, 1) := by decide +kernel
theorem d_L_law_520 : decode code 520 = .ok (.invokevirtual 60, 3) := by decide +kernel
theorem d_L_law_523 : decode code 523 = .ok (.if_icmp .eq 700, 3) := by decide +kernel
theorem d_L_law_526 : decode code 526 = .ok (.iconst 0, 1) := by decide +kernel
theorem d_L_law_528 : decode code 528 = .ok (.aload_n 1, 1) := by decide +kernel
theorem d_L_law_529 : decode code 529 = .ok (.aload_n 0, 1) := by decide +kernel
theorem d_L_law_530 : decode code 530 = .ok (.iload 4, 2) := by decide +kernel
theorem d_L_law_532 : decode code 532 = .ok (.iconst 1, 1) := by decide +kernel
theorem d_L_law_533 : decode code 533 = .ok (.iadd, 1) := by decide +kernel
theorem d_L_law_534 : decode code 534 = .ok (.iaload, 1) := by decide +kernel
theorem d_L_law_535 : decode code 535 = .ok (.aload_n 0, 1) := by decide +kernel
theorem d_L_law_536 : decode code 536 = .ok (.iload 4, 2) := by decide +kernel
theorem d_L_law_538 : decode code 538 = .ok (.iconst 2, 1) := by decide +kernel
theorem d_L_law_539 : decode code 539 = .ok (.iadd, 1) := by decide +kernel
theorem d_L_law_540 : decode code 540 = .ok (.iaload, 1) := by decide +kernel
theorem d_L_law_541 : decode code 541 = .ok (.aload_n 0, 1) := by decide +kernel
theorem d_L_law_542 : decode code 542 = .ok (.iload 4, 2) := by decide +kernel
theorem d_L_law_544 : decode code 544 = .ok (.iconst 3, 1) := by decide +kernel
theorem d_L_law_545 : decode code 545 = .ok (.iadd, 1) := by decide +kernel
theorem d_L_law_546 : decode code 546 = .ok (.iaload, 1) := by decide +kernel
theorem d_L_law_547 : decode code 547 = .ok (.invokevirtual 61, 3) := by decide +kernel
theorem d_L_law_550 : decode code 550 = .ok (.aload_n 2, 1) := by decide +kernel
theorem d_L_law_551 : decode code 551 = .ok (.aload_n 0, 1) := by decide +kernel
theorem d_L_law_552 : decode code 552 = .ok (.iload 4, 2) := by decide +kernel
theorem d_L_law_554 : decode code 554 = .ok (.iconst 1, 1) := by decide +kernel
theorem d_L_law_555 : decode code 555 = .ok (.iadd, 1) := by decide +kernel
theorem d_L_law_556 : decode code 556 = .ok (.iaload, 1) := by decide +kernel
theorem d_L_law_557 : decode code 557 = .ok (.aload_n 0, 1) := by decide +kernel
theorem d_L_law_558 : decode code 558 = .ok (.iload 4, 2) := by decide +kernel
theorem d_L_law_560 : decode code 560 = .ok (.iconst 2, 1) := by decide +kernel
theorem d_L_law_561 : decode code 561 = .ok (.iadd, 1) := by decide +kernel
theorem d_L_law_562 : decode code 562 = .ok (.iaload, 1) := by decide +kernel
theorem d_L_law_563 : decode code 563 = .ok (.aload_n 0, 1) := by decide +kernel
theorem d_L_law_564 : decode code 564 = .ok (.iload 4, 2) := by decide +kernel
theorem d_L_law_566 : decode code 566 = .ok (.iconst 3, 1) := by decide +kernel
theorem d_L_law_567 : decode code 567 = .ok (.iadd, 1) := by decide +kernel
theorem d_L_law_568 : decode code 568 = .ok (.iaload, 1) := by decide +kernel
theorem d_L_law_569 : decode code 569 = .ok (.invokevirtual 64, 3) := by decide +kernel
theorem d_L_law_572 : decode code 572 = .ok (.if_icmp .eq 651, 3) := by decide +kernel
theorem d_L_law_575 : decode code 575 = .ok (.iconst 0, 1) := by decide +kernel
theorem d_L_law_577 : decode code 577 = .ok (.aload_n 1, 1) := by decide +kernel
theorem d_L_law_578 : decode code 578 = .ok (.aload_n 0, 1) := by decide +kernel
theorem d_L_law_579 : decode code 579 = .ok (.iload 4, 2) := by decide +kernel
theorem d_L_law_581 : decode code 581 = .ok (.iconst 1, 1) := by decide +kernel
theorem d_L_law_582 : decode code 582 = .ok (.iadd, 1) := by decide +kernel
theorem d_L_law_583 : decode code 583 = .ok (.iaload, 1) := by decide +kernel
theorem d_L_law_584 : decode code 584 = .ok (.aload_n 0, 1) := by decide +kernel
theorem d_L_law_585 : decode code 585 = .ok (.iload 4, 2) := by decide +kernel
theorem d_L_law_587 : decode code 587 = .ok (.iconst 2, 1) := by decide +kernel
theorem d_L_law_588 : decode code 588 = .ok (.iadd, 1) := by decide +kernel
theorem d_L_law_589 : decode code 589 = .ok (.iaload, 1) := by decide +kernel
theorem d_L_law_590 : decode code 590 = .ok (.invokevirtual 65, 3) := by decide +kernel
theorem d_L_law_593 : decode code 593 = .ok (.aload_n 2, 1) := by decide +kernel
theorem d_L_law_594 : decode code 594 = .ok (.aload_n 0, 1) := by decide +kernel
theorem d_L_law_595 : decode code 595 = .ok (.iload 4, 2) := by decide +kernel
theorem d_L_law_597 : decode code 597 = .ok (.iconst 1, 1) := by decide +kernel
theorem d_L_law_598 : decode code 598 = .ok (.iadd, 1) := by decide +kernel
theorem d_L_law_599 : decode code 599 = .ok (.iaload, 1) := by decide +kernel
theorem d_L_law_600 : decode code 600 = .ok (.aload_n 0, 1) := by decide +kernel
theorem d_L_law_601 : decode code 601 = .ok (.iload 4, 2) := by decide +kernel
theorem d_L_law_603 : decode code 603 = .ok (.iconst 2, 1) := by decide +kernel
theorem d_L_law_604 : decode code 604 = .ok (.iadd, 1) := by decide +kernel
theorem d_L_law_605 : decode code 605 = .ok (.iaload, 1) := by decide +kernel
theorem d_L_law_606 : decode code 606 = .ok (.invokevirtual 68, 3) := by decide +kernel
theorem d_L_law_609 : decode code 609 = .ok (.if_icmp .eq 614, 3) := by decide +kernel
theorem d_L_law_612 : decode code 612 = .ok (.iconst 0, 1) := by decide +kernel
theorem d_L_law_614 : decode code 614 = .ok (.aload_n 1, 1) := by decide +kernel
theorem d_L_law_615 : decode code 615 = .ok (.aload_n 0, 1) := by decide +kernel
theorem d_L_law_616 : decode code 616 = .ok (.iload 4, 2) := by decide +kernel
theorem d_L_law_618 : decode code 618 = .ok (.iconst 1, 1) := by decide +kernel
theorem d_L_law_619 : decode code 619 = .ok (.iadd, 1) := by decide +kernel
theorem d_L_law_620 : decode code 620 = .ok (.iaload, 1) := by decide +kernel
theorem d_L_law_621 : decode code 621 = .ok (.invokevirtual 69, 3) := by decide +kernel
theorem d_L_law_624 : decode code 624 = .ok (.aload_n 2, 1) := by decide +kernel
theorem d_L_law_625 : decode code 625 = .ok (.aload_n 0, 1) := by decide +kernel
theorem d_L_law_626 : decode code 626 = .ok (.iload 4, 2) := by decide +kernel
theorem d_L_law_628 : decode code 628 = .ok (.iconst 1, 1) := by decide +kernel
theorem d_L_law_629 : decode code 629 = .ok (.iadd, 1) := by decide +kernel
theorem d_L_law_630 : decode code 630 = .ok (.iaload, 1) := by decide +kernel
theorem d_L_law_631 : decode code 631 = .ok (.invokevirtual 73, 3) := by decide +kernel
theorem d_L_law_634 : decode code 634 = .ok (.if_icmp .eq 589, 3) := by decide +kernel
theorem d_L_law_637 : decode code 637 = .ok (.iconst 0, 1) := by decide +kernel
theorem d_L_law_639 : decode code 639 = .ok (.aload_n 1, 1) := by decide +kernel
theorem d_L_law_640 : decode code 640 = .ok (.invokevirtual 74, 3) := by decide +kernel
theorem d_L_law_643 : decode code 643 = .ok (.aload_n 2, 1) := by decide +kernel
theorem d_L_law_644 : decode code 644 = .ok (.invokevirtual 77, 3) := by decide +kernel
theorem d_L_law_647 : decode code 647 = .ok (.if_icmp .eq 576, 3) := by decide +kernel
theorem d_L_law_650 : decode code 650 = .ok (.iconst 0, 1) := by decide +kernel
theorem d_L_law_652 : decode code 652 = .ok (.aload_n 1, 1) := by decide +kernel
theorem d_L_law_653 : decode code 653 = .ok (.aload_n 0, 1) := by decide +kernel
theorem d_L_law_654 : decode code 654 = .ok (.iload 4, 2) := by decide +kernel
theorem d_L_law_656 : decode code 656 = .ok (.iconst 1, 1) := by decide +kernel
theorem d_L_law_657 : decode code 657 = .ok (.iadd, 1) := by decide +kernel
theorem d_L_law_658 : decode code 658 = .ok (.iaload, 1) := by decide +kernel
theorem d_L_law_659 : decode code 659 = .ok (.aload_n 0, 1) := by decide +kernel
theorem d_L_law_660 : decode code 660 = .ok (.iload 4, 2) := by decide +kernel
theorem d_L_law_662 : decode code 662 = .ok (.iconst 2, 1) := by decide +kernel
theorem d_L_law_663 : decode code 663 = .ok (.iadd, 1) := by decide +kernel
theorem d_L_law_664 : decode code 664 = .ok (.iaload, 1) := by decide +kernel
theorem d_L_law_665 : decode code 665 = .ok (.aload_n 0, 1) := by decide +kernel
theorem d_L_law_666 : decode code 666 = .ok (.iload 4, 2) := by decide +kernel
theorem d_L_law_668 : decode code 668 = .ok (.iconst 3, 1) := by decide +kernel
theorem d_L_law_669 : decode code 669 = .ok (.iadd, 1) := by decide +kernel
theorem d_L_law_670 : decode code 670 = .ok (.iaload, 1) := by decide +kernel
theorem d_L_law_671 : decode code 671 = .ok (.invokevirtual 78, 3) := by decide +kernel
theorem d_L_law_674 : decode code 674 = .ok (.aload_n 2, 1) := by decide +kernel
theorem d_L_law_675 : decode code 675 = .ok (.aload_n 0, 1) := by decide +kernel
theorem d_L_law_676 : decode code 676 = .ok (.iload 4, 2) := by decide +kernel
theorem d_L_law_678 : decode code 678 = .ok (.iconst 1, 1) := by decide +kernel
theorem d_L_law_679 : decode code 679 = .ok (.iadd, 1) := by decide +kernel
theorem d_L_law_680 : decode code 680 = .ok (.iaload, 1) := by decide +kernel
theorem d_L_law_681 : decode code 681 = .ok (.aload_n 0, 1) := by decide +kernel
theorem d_L_law_682 : decode code 682 = .ok (.iload 4, 2) := by decide +kernel
theorem d_L_law_684 : decode code 684 = .ok (.iconst 2, 1) := by decide +kernel
theorem d_L_law_685 : decode code 685 = .ok (.iadd, 1) := by decide +kernel
theorem d_L_law_686 : decode code 686 = .ok (.iaload, 1) := by decide +kernel
theorem d_L_law_687 : decode code 687 = .ok (.aload_n 0, 1) := by decide +kernel
theorem d_L_law_688 : decode code 688 = .ok (.iload 4, 2) := by decide +kernel
theorem d_L_law_690 : decode code 690 = .ok (.iconst 3, 1) := by decide +kernel
theorem d_L_law_691 : decode code 691 = .ok (.iadd, 1) := by decide +kernel
theorem d_L_law_692 : decode code 692 = .ok (.iaload, 1) := by decide +kernel
theorem d_L_law_693 : decode code 693 = .ok (.invokevirtual 81, 3) := by decide +kernel
theorem d_L_law_696 : decode code 696 = .ok (.if_icmp .eq 527, 3) := by decide +kernel
theorem d_L_law_699 : decode code 699 = .ok (.iconst 0, 1) := by decide +kernel
theorem d_L_law_701 : decode code 701 = .ok (.aload_n 1, 1) := by decide +kernel
theorem d_L_law_702 : decode code 702 = .ok (.invokevirtual 82, 3) := by decide +kernel
theorem d_L_law_705 : decode code 705 = .ok (.aload_n 2, 1) := by decide +kernel
theorem d_L_law_706 : decode code 706 = .ok (.invokevirtual 86, 3) := by decide +kernel
theorem d_L_law_709 : decode code 709 = .ok (.if_icmp .eq 514, 3) := by decide +kernel
theorem d_L_law_712 : decode code 712 = .ok (.iconst 0, 1) := by decide +kernel
theorem d_L_law_714 : decode code 714 = .ok (.aload_n 1, 1) := by decide +kernel
theorem d_L_law_715 : decode code 715 = .ok (.aload_n 0, 1) := by decide +kernel
theorem d_L_law_716 : decode code 716 = .ok (.iload 4, 2) := by decide +kernel
theorem d_L_law_718 : decode code 718 = .ok (.iconst 1, 1) := by decide +kernel
theorem d_L_law_719 : decode code 719 = .ok (.iadd, 1) := by decide +kernel
theorem d_L_law_720 : decode code 720 = .ok (.iaload, 1) := by decide +kernel
theorem d_L_law_721 : decode code 721 = .ok (.invokevirtual 87, 3) := by decide +kernel
theorem d_L_law_724 : decode code 724 = .ok (.aload_n 2, 1) := by decide +kernel
theorem d_L_law_725 : decode code 725 = .ok (.aload_n 0, 1) := by decide +kernel
theorem d_L_law_726 : decode code 726 = .ok (.iload 4, 2) := by decide +kernel
theorem d_L_law_728 : decode code 728 = .ok (.iconst 1, 1) := by decide +kernel
theorem d_L_law_729 : decode code 729 = .ok (.iadd, 1) := by decide +kernel
theorem d_L_law_730 : decode code 730 = .ok (.iaload, 1) := by decide +kernel
theorem d_L_law_731 : decode code 731 = .ok (.invokevirtual 90, 3) := by decide +kernel
theorem d_L_law_734 : decode code 734 = .ok (.if_icmp .eq 489, 3) := by decide +kernel
theorem d_L_law_737 : decode code 737 = .ok (.iconst 0, 1) := by decide +kernel
theorem d_L_law_739 : decode code 739 = .ok (.aload_n 1, 1) := by decide +kernel
theorem d_L_law_740 : decode code 740 = .ok (.aload_n 0, 1) := by decide +kernel
theorem d_L_law_741 : decode code 741 = .ok (.iload 4, 2) := by decide +kernel
theorem d_L_law_743 : decode code 743 = .ok (.iconst 1, 1) := by decide +kernel
theorem d_L_law_744 : decode code 744 = .ok (.iadd, 1) := by decide +kernel
theorem d_L_law_745 : decode code 745 = .ok (.iaload, 1) := by decide +kernel
theorem d_L_law_746 : decode code 746 = .ok (.invokevirtual 91, 3) := by decide +kernel
theorem d_L_law_749 : decode code 749 = .ok (.aload_n 2, 1) := by decide +kernel
theorem d_L_law_750 : decode code 750 = .ok (.aload_n 0, 1) := by decide +kernel
theorem d_L_law_751 : decode code 751 = .ok (.iload 4, 2) := by decide +kernel
theorem d_L_law_753 : decode code 753 = .ok (.iconst 1, 1) := by decide +kernel
theorem d_L_law_754 : decode code 754 = .ok (.iadd, 1) := by decide +kernel
theorem d_L_law_755 : decode code 755 = .ok (.iaload, 1) := by decide +kernel
theorem d_L_law_756 : decode code 756 = .ok (.invokevirtual 94, 3) := by decide +kernel
theorem d_L_law_759 : decode code 759 = .ok (.if_icmp .eq 464, 3) := by decide +kernel
theorem d_L_law_762 : decode code 762 = .ok (.iconst 0, 1) := by decide +kernel
theorem d_L_law_764 : decode code 764 = .ok (.aload_n 1, 1) := by decide +kernel
theorem d_L_law_765 : decode code 765 = .ok (.invokevirtual 95, 3) := by decide +kernel
theorem d_L_law_768 : decode code 768 = .ok (.aload_n 2, 1) := by decide +kernel
theorem d_L_law_769 : decode code 769 = .ok (.invokevirtual 98, 3) := by decide +kernel
theorem d_L_law_772 : decode code 772 = .ok (.if_icmp .eq 451, 3) := by decide +kernel
theorem d_L_law_775 : decode code 775 = .ok (.iconst 0, 1) := by decide +kernel
theorem d_L_law_777 : decode code 777 = .ok (.aload_n 1, 1) := by decide +kernel
theorem d_L_law_778 : decode code 778 = .ok (.aload_n 0, 1) := by decide +kernel
theorem d_L_law_779 : decode code 779 = .ok (.iload 4, 2) := by decide +kernel
theorem d_L_law_781 : decode code 781 = .ok (.iconst 1, 1) := by decide +kernel
theorem d_L_law_782 : decode code 782 = .ok (.iadd, 1) := by decide +kernel
theorem d_L_law_783 : decode code 783 = .ok (.iaload, 1) := by decide +kernel
theorem d_L_law_784 : decode code 784 = .ok (.aload_n 0, 1) := by decide +kernel
theorem d_L_law_785 : decode code 785 = .ok (.iload 4, 2) := by decide +kernel
theorem d_L_law_787 : decode code 787 = .ok (.iconst 2, 1) := by decide +kernel
theorem d_L_law_788 : decode code 788 = .ok (.iadd, 1) := by decide +kernel
theorem d_L_law_789 : decode code 789 = .ok (.iaload, 1) := by decide +kernel
theorem d_L_law_790 : decode code 790 = .ok (.aload_n 0, 1) := by decide +kernel
theorem d_L_law_791 : decode code 791 = .ok (.iload 4, 2) := by decide +kernel
theorem d_L_law_793 : decode code 793 = .ok (.iconst 3, 1) := by decide +kernel
theorem d_L_law_794 : decode code 794 = .ok (.iadd, 1) := by decide +kernel
theorem d_L_law_795 : decode code 795 = .ok (.iaload, 1) := by decide +kernel
theorem d_L_law_796 : decode code 796 = .ok (.aload_n 0, 1) := by decide +kernel
theorem d_L_law_797 : decode code 797 = .ok (.iload 4, 2) := by decide +kernel
theorem d_L_law_799 : decode code 799 = .ok (.iconst 4, 1) := by decide +kernel
theorem d_L_law_800 : decode code 800 = .ok (.iadd, 1) := by decide +kernel
theorem d_L_law_801 : decode code 801 = .ok (.iaload, 1) := by decide +kernel
theorem d_L_law_802 : decode code 802 = .ok (.aload_n 3, 1) := by decide +kernel
theorem d_L_law_803 : decode code 803 = .ok (.invokestatic 99, 3) := by decide +kernel
theorem d_L_law_806 : decode code 806 = .ok (.istore 5, 2) := by decide +kernel
theorem d_L_law_808 : decode code 808 = .ok (.aload_n 2, 1) := by decide +kernel
theorem d_L_law_809 : decode code 809 = .ok (.aload_n 0, 1) := by decide +kernel
theorem d_L_law_810 : decode code 810 = .ok (.iload 4, 2) := by decide +kernel
theorem d_L_law_812 : decode code 812 = .ok (.iconst 1, 1) := by decide +kernel
theorem d_L_law_813 : decode code 813 = .ok (.iadd, 1) := by decide +kernel
theorem d_L_law_814 : decode code 814 = .ok (.iaload, 1) := by decide +kernel
theorem d_L_law_815 : decode code 815 = .ok (.aload_n 0, 1) := by decide +kernel
theorem d_L_law_816 : decode code 816 = .ok (.iload 4, 2) := by decide +kernel
theorem d_L_law_818 : decode code 818 = .ok (.iconst 2, 1) := by decide +kernel
theorem d_L_law_819 : decode code 819 = .ok (.iadd, 1) := by decide +kernel
theorem d_L_law_820 : decode code 820 = .ok (.iaload, 1) := by decide +kernel
theorem d_L_law_821 : decode code 821 = .ok (.aload_n 0, 1) := by decide +kernel
theorem d_L_law_822 : decode code 822 = .ok (.iload 4, 2) := by decide +kernel
theorem d_L_law_824 : decode code 824 = .ok (.iconst 3, 1) := by decide +kernel
theorem d_L_law_825 : decode code 825 = .ok (.iadd, 1) := by decide +kernel
theorem d_L_law_826 : decode code 826 = .ok (.iaload, 1) := by decide +kernel
theorem d_L_law_827 : decode code 827 = .ok (.aload_n 0, 1) := by decide +kernel
theorem d_L_law_828 : decode code 828 = .ok (.iload 4, 2) := by decide +kernel
theorem d_L_law_830 : decode code 830 = .ok (.iconst 4, 1) := by decide +kernel
theorem d_L_law_831 : decode code 831 = .ok (.iadd, 1) := by decide +kernel
theorem d_L_law_832 : decode code 832 = .ok (.iaload, 1) := by decide +kernel
theorem d_L_law_833 : decode code 833 = .ok (.invokevirtual 102, 3) := by decide +kernel
theorem d_L_law_836 : decode code 836 = .ok (.istore 6, 2) := by decide +kernel
theorem d_L_law_838 : decode code 838 = .ok (.aload_n 2, 1) := by decide +kernel
theorem d_L_law_839 : decode code 839 = .ok (.invokevirtual 45, 3) := by decide +kernel
theorem d_L_law_842 : decode code 842 = .ok (.iload 5, 2) := by decide +kernel
theorem d_L_law_844 : decode code 844 = .ok (.if_icmp .eq 5, 3) := by decide +kernel
theorem d_L_law_847 : decode code 847 = .ok (.iconst 0, 1) := by decide +kernel
theorem d_L_law_849 : decode code 849 = .ok (.iload 5, 2) := by decide +kernel
theorem d_L_law_851 : decode code 851 = .ok (.ifCond .ne 15, 3) := by decide +kernel
theorem d_L_law_854 : decode code 854 = .ok (.aload_n 3, 1) := by decide +kernel
theorem d_L_law_855 : decode code 855 = .ok (.iconst 0, 1) := by decide +kernel
theorem d_L_law_856 : decode code 856 = .ok (.laload, 1) := by decide +kernel
theorem d_L_law_857 : decode code 857 = .ok (.iload 6, 2) := by decide +kernel
theorem d_L_law_859 : decode code 859 = .ok (.i2l, 1) := by decide +kernel
theorem d_L_law_860 : decode code 860 = .ok (.lcmp, 1) := by decide +kernel
theorem d_L_law_861 : decode code 861 = .ok (.ifCond .eq 5, 3) := by decide +kernel
theorem d_L_law_864 : decode code 864 = .ok (.iconst 0, 1) := by decide +kernel
theorem d_L_law_866 : decode code 866 = .ok (.goto 357, 3) := by decide +kernel
theorem d_L_law_869 : decode code 869 = .ok (.aload_n 1, 1) := by decide +kernel
theorem d_L_law_870 : decode code 870 = .ok (.aload_n 0, 1) := by decide +kernel
theorem d_L_law_871 : decode code 871 = .ok (.iload 4, 2) := by decide +kernel
theorem d_L_law_873 : decode code 873 = .ok (.iconst 1, 1) := by decide +kernel
theorem d_L_law_874 : decode code 874 = .ok (.iadd, 1) := by decide +kernel
theorem d_L_law_875 : decode code 875 = .ok (.iaload, 1) := by decide +kernel
theorem d_L_law_876 : decode code 876 = .ok (.aload_n 0, 1) := by decide +kernel
theorem d_L_law_877 : decode code 877 = .ok (.iload 4, 2) := by decide +kernel
theorem d_L_law_879 : decode code 879 = .ok (.iconst 2, 1) := by decide +kernel
theorem d_L_law_880 : decode code 880 = .ok (.iadd, 1) := by decide +kernel
theorem d_L_law_881 : decode code 881 = .ok (.iaload, 1) := by decide +kernel
theorem d_L_law_882 : decode code 882 = .ok (.ifCond .eq 7, 3) := by decide +kernel
theorem d_L_law_885 : decode code 885 = .ok (.iconst 1, 1) := by decide +kernel
theorem d_L_law_886 : decode code 886 = .ok (.goto 4, 3) := by decide +kernel
theorem d_L_law_889 : decode code 889 = .ok (.iconst 0, 1) := by decide +kernel
theorem d_L_law_890 : decode code 890 = .ok (.invokevirtual 103, 3) := by decide +kernel
theorem d_L_law_893 : decode code 893 = .ok (.aload_n 2, 1) := by decide +kernel
theorem d_L_law_894 : decode code 894 = .ok (.aload_n 0, 1) := by decide +kernel
theorem d_L_law_895 : decode code 895 = .ok (.iload 4, 2) := by decide +kernel
theorem d_L_law_897 : decode code 897 = .ok (.iconst 1, 1) := by decide +kernel
theorem d_L_law_898 : decode code 898 = .ok (.iadd, 1) := by decide +kernel
theorem d_L_law_899 : decode code 899 = .ok (.iaload, 1) := by decide +kernel
theorem d_L_law_900 : decode code 900 = .ok (.aload_n 0, 1) := by decide +kernel
theorem d_L_law_901 : decode code 901 = .ok (.iload 4, 2) := by decide +kernel
theorem d_L_law_903 : decode code 903 = .ok (.iconst 2, 1) := by decide +kernel
theorem d_L_law_904 : decode code 904 = .ok (.iadd, 1) := by decide +kernel
theorem d_L_law_905 : decode code 905 = .ok (.iaload, 1) := by decide +kernel
theorem d_L_law_906 : decode code 906 = .ok (.ifCond .eq 7, 3) := by decide +kernel
theorem d_L_law_909 : decode code 909 = .ok (.iconst 1, 1) := by decide +kernel
theorem d_L_law_910 : decode code 910 = .ok (.goto 4, 3) := by decide +kernel
theorem d_L_law_913 : decode code 913 = .ok (.iconst 0, 1) := by decide +kernel
theorem d_L_law_914 : decode code 914 = .ok (.invokevirtual 107, 3) := by decide +kernel
theorem d_L_law_917 : decode code 917 = .ok (.if_icmp .eq 306, 3) := by decide +kernel
theorem d_L_law_920 : decode code 920 = .ok (.iconst 0, 1) := by decide +kernel
theorem d_L_law_922 : decode code 922 = .ok (.aload_n 1, 1) := by decide +kernel
theorem d_L_law_923 : decode code 923 = .ok (.aload_n 0, 1) := by decide +kernel
theorem d_L_law_924 : decode code 924 = .ok (.iload 4, 2) := by decide +kernel
theorem d_L_law_926 : decode code 926 = .ok (.iconst 1, 1) := by decide +kernel
theorem d_L_law_927 : decode code 927 = .ok (.iadd, 1) := by decide +kernel
theorem d_L_law_928 : decode code 928 = .ok (.iaload, 1) := by decide +kernel
theorem d_L_law_929 : decode code 929 = .ok (.invokevirtual 108, 3) := by decide +kernel
theorem d_L_law_932 : decode code 932 = .ok (.aload_n 2, 1) := by decide +kernel
theorem d_L_law_933 : decode code 933 = .ok (.aload_n 0, 1) := by decide +kernel
theorem d_L_law_934 : decode code 934 = .ok (.iload 4, 2) := by decide +kernel
theorem d_L_law_936 : decode code 936 = .ok (.iconst 1, 1) := by decide +kernel
theorem d_L_law_937 : decode code 937 = .ok (.iadd, 1) := by decide +kernel
theorem d_L_law_938 : decode code 938 = .ok (.iaload, 1) := by decide +kernel
theorem d_L_law_939 : decode code 939 = .ok (.invokevirtual 111, 3) := by decide +kernel
theorem d_L_law_942 : decode code 942 = .ok (.if_icmp .eq 281, 3) := by decide +kernel
theorem d_L_law_945 : decode code 945 = .ok (.iconst 0, 1) := by decide +kernel
theorem d_L_law_947 : decode code 947 = .ok (.aload_n 1, 1) := by decide +kernel
theorem d_L_law_948 : decode code 948 = .ok (.aload_n 0, 1) := by decide +kernel
theorem d_L_law_949 : decode code 949 = .ok (.iload 4, 2) := by decide +kernel
theorem d_L_law_951 : decode code 951 = .ok (.iconst 1, 1) := by decide +kernel
theorem d_L_law_952 : decode code 952 = .ok (.iadd, 1) := by decide +kernel
theorem d_L_law_953 : decode code 953 = .ok (.iaload, 1) := by decide +kernel
theorem d_L_law_954 : decode code 954 = .ok (.invokevirtual 112, 3) := by decide +kernel
theorem d_L_law_957 : decode code 957 = .ok (.aload_n 2, 1) := by decide +kernel
theorem d_L_law_958 : decode code 958 = .ok (.aload_n 0, 1) := by decide +kernel
theorem d_L_law_959 : decode code 959 = .ok (.iload 4, 2) := by decide +kernel
theorem d_L_law_961 : decode code 961 = .ok (.iconst 1, 1) := by decide +kernel
theorem d_L_law_962 : decode code 962 = .ok (.iadd, 1) := by decide +kernel
theorem d_L_law_963 : decode code 963 = .ok (.iaload, 1) := by decide +kernel
theorem d_L_law_964 : decode code 964 = .ok (.invokevirtual 115, 3) := by decide +kernel
theorem d_L_law_967 : decode code 967 = .ok (.if_icmp .eq 256, 3) := by decide +kernel
theorem d_L_law_970 : decode code 970 = .ok (.iconst 0, 1) := by decide +kernel
theorem d_L_law_972 : decode code 972 = .ok (.aload_n 1, 1) := by decide +kernel
theorem d_L_law_973 : decode code 973 = .ok (.aload_n 0, 1) := by decide +kernel
theorem d_L_law_974 : decode code 974 = .ok (.iload 4, 2) := by decide +kernel
theorem d_L_law_976 : decode code 976 = .ok (.iconst 1, 1) := by decide +kernel
theorem d_L_law_977 : decode code 977 = .ok (.iadd, 1) := by decide +kernel
theorem d_L_law_978 : decode code 978 = .ok (.iaload, 1) := by decide +kernel
theorem d_L_law_979 : decode code 979 = .ok (.aload_n 0, 1) := by decide +kernel
theorem d_L_law_980 : decode code 980 = .ok (.iload 4, 2) := by decide +kernel
theorem d_L_law_982 : decode code 982 = .ok (.iconst 2, 1) := by decide +kernel
theorem d_L_law_983 : decode code 983 = .ok (.iadd, 1) := by decide +kernel
theorem d_L_law_984 : decode code 984 = .ok (.iaload, 1) := by decide +kernel
theorem d_L_law_985 : decode code 985 = .ok (.invokevirtual 116, 3) := by decide +kernel
theorem d_L_law_988 : decode code 988 = .ok (.aload_n 2, 1) := by decide +kernel
theorem d_L_law_989 : decode code 989 = .ok (.aload_n 0, 1) := by decide +kernel
theorem d_L_law_990 : decode code 990 = .ok (.iload 4, 2) := by decide +kernel
theorem d_L_law_992 : decode code 992 = .ok (.iconst 1, 1) := by decide +kernel
theorem d_L_law_993 : decode code 993 = .ok (.iadd, 1) := by decide +kernel
theorem d_L_law_994 : decode code 994 = .ok (.iaload, 1) := by decide +kernel
theorem d_L_law_995 : decode code 995 = .ok (.aload_n 0, 1) := by decide +kernel
theorem d_L_law_996 : decode code 996 = .ok (.iload 4, 2) := by decide +kernel
theorem d_L_law_998 : decode code 998 = .ok (.iconst 2, 1) := by decide +kernel
theorem d_L_law_999 : decode code 999 = .ok (.iadd, 1) := by decide +kernel
theorem d_L_law_1000 : decode code 1000 = .ok (.iaload, 1) := by decide +kernel
theorem d_L_law_1001 : decode code 1001 = .ok (.invokevirtual 119, 3) := by decide +kernel
theorem d_L_law_1004 : decode code 1004 = .ok (.if_icmp .eq 219, 3) := by decide +kernel
theorem d_L_law_1007 : decode code 1007 = .ok (.iconst 0, 1) := by decide +kernel
theorem d_L_law_1009 : decode code 1009 = .ok (.aload_n 1, 1) := by decide +kernel
theorem d_L_law_1010 : decode code 1010 = .ok (.aload_n 0, 1) := by decide +kernel
theorem d_L_law_1011 : decode code 1011 = .ok (.iload 4, 2) := by decide +kernel
theorem d_L_law_1013 : decode code 1013 = .ok (.iconst 1, 1) := by decide +kernel
theorem d_L_law_1014 : decode code 1014 = .ok (.iadd, 1) := by decide +kernel
theorem d_L_law_1015 : decode code 1015 = .ok (.iaload, 1) := by decide +kernel
theorem d_L_law_1016 : decode code 1016 = .ok (.aload_n 0, 1) := by decide +kernel
theorem d_L_law_1017 : decode code 1017 = .ok (.iload 4, 2) := by decide +kernel
theorem d_L_law_1019 : decode code 1019 = .ok (.iconst 2, 1) := by decide +kernel
theorem d_L_law_1020 : decode code 1020 = .ok (.iadd, 1) := by decide +kernel
theorem d_L_law_1021 : decode code 1021 = .ok (.iaload, 1) := by decide +kernel
theorem d_L_law_1022 : decode code 1022 = .ok (.invokevirtual 120, 3) := by decide +kernel
theorem d_L_law_1025 : decode code 1025 = .ok (.aload_n 2, 1) := by decide +kernel
theorem d_L_law_1026 : decode code 1026 = .ok (.aload_n 0, 1) := by decide +kernel
theorem d_L_law_1027 : decode code 1027 = .ok (.iload 4, 2) := by decide +kernel
theorem d_L_law_1029 : decode code 1029 = .ok (.iconst 1, 1) := by decide +kernel
theorem d_L_law_1030 : decode code 1030 = .ok (.iadd, 1) := by decide +kernel
theorem d_L_law_1031 : decode code 1031 = .ok (.iaload, 1) := by decide +kernel
theorem d_L_law_1032 : decode code 1032 = .ok (.aload_n 0, 1) := by decide +kernel
theorem d_L_law_1033 : decode code 1033 = .ok (.iload 4, 2) := by decide +kernel
theorem d_L_law_1035 : decode code 1035 = .ok (.iconst 2, 1) := by decide +kernel
theorem d_L_law_1036 : decode code 1036 = .ok (.iadd, 1) := by decide +kernel
theorem d_L_law_1037 : decode code 1037 = .ok (.iaload, 1) := by decide +kernel
theorem d_L_law_1038 : decode code 1038 = .ok (.invokevirtual 123, 3) := by decide +kernel
theorem d_L_law_1041 : decode code 1041 = .ok (.if_icmp .eq 182, 3) := by decide +kernel
theorem d_L_law_1044 : decode code 1044 = .ok (.iconst 0, 1) := by decide +kernel
theorem d_L_law_1046 : decode code 1046 = .ok (.aload_n 1, 1) := by decide +kernel
theorem d_L_law_1047 : decode code 1047 = .ok (.invokevirtual 124, 3) := by decide +kernel
theorem d_L_law_1050 : decode code 1050 = .ok (.aload_n 2, 1) := by decide +kernel
theorem d_L_law_1051 : decode code 1051 = .ok (.invokevirtual 127, 3) := by decide +kernel
theorem d_L_law_1054 : decode code 1054 = .ok (.if_icmp .eq 169, 3) := by decide +kernel
theorem d_L_law_1057 : decode code 1057 = .ok (.iconst 0, 1) := by decide +kernel
theorem d_L_law_1059 : decode code 1059 = .ok (.aload_n 1, 1) := by decide +kernel
theorem d_L_law_1060 : decode code 1060 = .ok (.aload_n 0, 1) := by decide +kernel
theorem d_L_law_1061 : decode code 1061 = .ok (.iload 4, 2) := by decide +kernel
theorem d_L_law_1063 : decode code 1063 = .ok (.iconst 1, 1) := by decide +kernel
theorem d_L_law_1064 : decode code 1064 = .ok (.iadd, 1) := by decide +kernel
theorem d_L_law_1065 : decode code 1065 = .ok (.iaload, 1) := by decide +kernel
theorem d_L_law_1066 : decode code 1066 = .ok (.aload_n 0, 1) := by decide +kernel
theorem d_L_law_1067 : decode code 1067 = .ok (.iload 4, 2) := by decide +kernel
theorem d_L_law_1069 : decode code 1069 = .ok (.iconst 2, 1) := by decide +kernel
theorem d_L_law_1070 : decode code 1070 = .ok (.iadd, 1) := by decide +kernel
theorem d_L_law_1071 : decode code 1071 = .ok (.iaload, 1) := by decide +kernel
theorem d_L_law_1072 : decode code 1072 = .ok (.invokevirtual 128, 3) := by decide +kernel
theorem d_L_law_1075 : decode code 1075 = .ok (.aload_n 2, 1) := by decide +kernel
theorem d_L_law_1076 : decode code 1076 = .ok (.aload_n 0, 1) := by decide +kernel
theorem d_L_law_1077 : decode code 1077 = .ok (.iload 4, 2) := by decide +kernel
theorem d_L_law_1079 : decode code 1079 = .ok (.iconst 1, 1) := by decide +kernel
theorem d_L_law_1080 : decode code 1080 = .ok (.iadd, 1) := by decide +kernel
theorem d_L_law_1081 : decode code 1081 = .ok (.iaload, 1) := by decide +kernel
theorem d_L_law_1082 : decode code 1082 = .ok (.aload_n 0, 1) := by decide +kernel
theorem d_L_law_1083 : decode code 1083 = .ok (.iload 4, 2) := by decide +kernel
theorem d_L_law_1085 : decode code 1085 = .ok (.iconst 2, 1) := by decide +kernel
theorem d_L_law_1086 : decode code 1086 = .ok (.iadd, 1) := by decide +kernel
theorem d_L_law_1087 : decode code 1087 = .ok (.iaload, 1) := by decide +kernel
theorem d_L_law_1088 : decode code 1088 = .ok (.invokevirtual 131, 3) := by decide +kernel
theorem d_L_law_1091 : decode code 1091 = .ok (.if_icmp .eq 132, 3) := by decide +kernel
theorem d_L_law_1094 : decode code 1094 = .ok (.iconst 0, 1) := by decide +kernel
theorem d_L_law_1096 : decode code 1096 = .ok (.aload_n 1, 1) := by decide +kernel
theorem d_L_law_1097 : decode code 1097 = .ok (.aload_n 0, 1) := by decide +kernel
theorem d_L_law_1098 : decode code 1098 = .ok (.iload 4, 2) := by decide +kernel
theorem d_L_law_1100 : decode code 1100 = .ok (.iconst 1, 1) := by decide +kernel
theorem d_L_law_1101 : decode code 1101 = .ok (.iadd, 1) := by decide +kernel
theorem d_L_law_1102 : decode code 1102 = .ok (.iaload, 1) := by decide +kernel
theorem d_L_law_1103 : decode code 1103 = .ok (.aload_n 0, 1) := by decide +kernel
theorem d_L_law_1104 : decode code 1104 = .ok (.iload 4, 2) := by decide +kernel
theorem d_L_law_1106 : decode code 1106 = .ok (.iconst 2, 1) := by decide +kernel
theorem d_L_law_1107 : decode code 1107 = .ok (.iadd, 1) := by decide +kernel
theorem d_L_law_1108 : decode code 1108 = .ok (.iaload, 1) := by decide +kernel
theorem d_L_law_1109 : decode code 1109 = .ok (.aload_n 0, 1) := by decide +kernel
theorem d_L_law_1110 : decode code 1110 = .ok (.iload 4, 2) := by decide +kernel
theorem d_L_law_1112 : decode code 1112 = .ok (.iconst 3, 1) := by decide +kernel
theorem d_L_law_1113 : decode code 1113 = .ok (.iadd, 1) := by decide +kernel
theorem d_L_law_1114 : decode code 1114 = .ok (.iaload, 1) := by decide +kernel
theorem d_L_law_1115 : decode code 1115 = .ok (.invokevirtual 132, 3) := by decide +kernel
theorem d_L_law_1118 : decode code 1118 = .ok (.aload_n 2, 1) := by decide +kernel
theorem d_L_law_1119 : decode code 1119 = .ok (.aload_n 0, 1) := by decide +kernel
theorem d_L_law_1120 : decode code 1120 = .ok (.iload 4, 2) := by decide +kernel
theorem d_L_law_1122 : decode code 1122 = .ok (.iconst 1, 1) := by decide +kernel
theorem d_L_law_1123 : decode code 1123 = .ok (.iadd, 1) := by decide +kernel
theorem d_L_law_1124 : decode code 1124 = .ok (.iaload, 1) := by decide +kernel
theorem d_L_law_1125 : decode code 1125 = .ok (.aload_n 0, 1) := by decide +kernel
theorem d_L_law_1126 : decode code 1126 = .ok (.iload 4, 2) := by decide +kernel
theorem d_L_law_1128 : decode code 1128 = .ok (.iconst 2, 1) := by decide +kernel
theorem d_L_law_1129 : decode code 1129 = .ok (.iadd, 1) := by decide +kernel
theorem d_L_law_1130 : decode code 1130 = .ok (.iaload, 1) := by decide +kernel
theorem d_L_law_1131 : decode code 1131 = .ok (.aload_n 0, 1) := by decide +kernel
theorem d_L_law_1132 : decode code 1132 = .ok (.iload 4, 2) := by decide +kernel
theorem d_L_law_1134 : decode code 1134 = .ok (.iconst 3, 1) := by decide +kernel
theorem d_L_law_1135 : decode code 1135 = .ok (.iadd, 1) := by decide +kernel
theorem d_L_law_1136 : decode code 1136 = .ok (.iaload, 1) := by decide +kernel
theorem d_L_law_1137 : decode code 1137 = .ok (.invokevirtual 135, 3) := by decide +kernel
theorem d_L_law_1140 : decode code 1140 = .ok (.if_icmp .eq 83, 3) := by decide +kernel
theorem d_L_law_1143 : decode code 1143 = .ok (.iconst 0, 1) := by decide +kernel
theorem d_L_law_1145 : decode code 1145 = .ok (.aload_n 1, 1) := by decide +kernel
theorem d_L_law_1146 : decode code 1146 = .ok (.aload_n 0, 1) := by decide +kernel
theorem d_L_law_1147 : decode code 1147 = .ok (.iload 4, 2) := by decide +kernel
theorem d_L_law_1149 : decode code 1149 = .ok (.iconst 1, 1) := by decide +kernel
theorem d_L_law_1150 : decode code 1150 = .ok (.iadd, 1) := by decide +kernel
theorem d_L_law_1151 : decode code 1151 = .ok (.iaload, 1) := by decide +kernel
theorem d_L_law_1152 : decode code 1152 = .ok (.aload_n 0, 1) := by decide +kernel
theorem d_L_law_1153 : decode code 1153 = .ok (.iload 4, 2) := by decide +kernel
theorem d_L_law_1155 : decode code 1155 = .ok (.iconst 2, 1) := by decide +kernel
theorem d_L_law_1156 : decode code 1156 = .ok (.iadd, 1) := by decide +kernel
theorem d_L_law_1157 : decode code 1157 = .ok (.iaload, 1) := by decide +kernel
theorem d_L_law_1158 : decode code 1158 = .ok (.ifCond .eq 7, 3) := by decide +kernel
theorem d_L_law_1161 : decode code 1161 = .ok (.iconst 1, 1) := by decide +kernel
theorem d_L_law_1162 : decode code 1162 = .ok (.goto 4, 3) := by decide +kernel
theorem d_L_law_1165 : decode code 1165 = .ok (.iconst 0, 1) := by decide +kernel
theorem d_L_law_1166 : decode code 1166 = .ok (.invokevirtual 136, 3) := by decide +kernel
theorem d_L_law_1169 : decode code 1169 = .ok (.aload_n 2, 1) := by decide +kernel
theorem d_L_law_1170 : decode code 1170 = .ok (.aload_n 0, 1) := by decide +kernel
theorem d_L_law_1171 : decode code 1171 = .ok (.iload 4, 2) := by decide +kernel
theorem d_L_law_1173 : decode code 1173 = .ok (.iconst 1, 1) := by decide +kernel
theorem d_L_law_1174 : decode code 1174 = .ok (.iadd, 1) := by decide +kernel
theorem d_L_law_1175 : decode code 1175 = .ok (.iaload, 1) := by decide +kernel
theorem d_L_law_1176 : decode code 1176 = .ok (.aload_n 0, 1) := by decide +kernel
theorem d_L_law_1177 : decode code 1177 = .ok (.iload 4, 2) := by decide +kernel
theorem d_L_law_1179 : decode code 1179 = .ok (.iconst 2, 1) := by decide +kernel
theorem d_L_law_1180 : decode code 1180 = .ok (.iadd, 1) := by decide +kernel
theorem d_L_law_1181 : decode code 1181 = .ok (.iaload, 1) := by decide +kernel
theorem d_L_law_1182 : decode code 1182 = .ok (.ifCond .eq 7, 3) := by decide +kernel
theorem d_L_law_1185 : decode code 1185 = .ok (.iconst 1, 1) := by decide +kernel
theorem d_L_law_1186 : decode code 1186 = .ok (.goto 4, 3) := by decide +kernel
theorem d_L_law_1189 : decode code 1189 = .ok (.iconst 0, 1) := by decide +kernel
theorem d_L_law_1190 : decode code 1190 = .ok (.invokevirtual 139, 3) := by decide +kernel
theorem d_L_law_1193 : decode code 1193 = .ok (.if_icmp .eq 30, 3) := by decide +kernel
theorem d_L_law_1196 : decode code 1196 = .ok (.iconst 0, 1) := by decide +kernel
theorem d_L_law_1198 : decode code 1198 = .ok (.aload_n 1, 1) := by decide +kernel
theorem d_L_law_1199 : decode code 1199 = .ok (.aload_n 0, 1) := by decide +kernel
theorem d_L_law_1200 : decode code 1200 = .ok (.iload 4, 2) := by decide +kernel
theorem d_L_law_1202 : decode code 1202 = .ok (.iconst 1, 1) := by decide +kernel
theorem d_L_law_1203 : decode code 1203 = .ok (.iadd, 1) := by decide +kernel
theorem d_L_law_1204 : decode code 1204 = .ok (.iaload, 1) := by decide +kernel
theorem d_L_law_1205 : decode code 1205 = .ok (.invokevirtual 140, 3) := by decide +kernel
theorem d_L_law_1208 : decode code 1208 = .ok (.aload_n 2, 1) := by decide +kernel
theorem d_L_law_1209 : decode code 1209 = .ok (.aload_n 0, 1) := by decide +kernel
theorem d_L_law_1210 : decode code 1210 = .ok (.iload 4, 2) := by decide +kernel
theorem d_L_law_1212 : decode code 1212 = .ok (.iconst 1, 1) := by decide +kernel
theorem d_L_law_1213 : decode code 1213 = .ok (.iadd, 1) := by decide +kernel
theorem d_L_law_1214 : decode code 1214 = .ok (.iaload, 1) := by decide +kernel
theorem d_L_law_1215 : decode code 1215 = .ok (.invokevirtual 143, 3) := by decide +kernel
theorem d_L_law_1218 : decode code 1218 = .ok (.if_icmp .eq 5, 3) := by decide +kernel
theorem d_L_law_1221 : decode code 1221 = .ok (.iconst 0, 1) := by decide +kernel
theorem d_L_law_1223 : decode code 1223 = .ok (.iinc 4 7, 3) := by decide +kernel
theorem d_L_law_1226 : decode code 1226 = .ok (.goto (-1203), 3) := by decide +kernel
theorem d_L_law_1229 : decode code 1229 = .ok (.iconst 1, 1) := by decide +kernel
theorem d_L_law_1230 : decode code 1230 = .ok (.ireturn, 1) := by decide +kernel
theorem mp_ofNat_toInt0 {k : Nat} (h : k < 2 ^ 31) : (Int32.ofNat k).toInt = (k : Int) := Int32.toInt_ofNat_of_lt h
def mx_LZ (V : mm_V) : List Frame → Array Value → State → State → Prop := fun below args s t => mx_T V s → V.1 32 = s.heap.size → lw_Z below args s t
theorem ML.lwret {V : mm_V} {l : Launch} {d C S ck sk : Nat} {Kc : Code → Prop} {pc : Nat} {lv : List (Nat × Value)} {h : mm_H} (hck : ck ≤ 601024) (hsk : sk ≤ 7293034) (hd : decode code pc = .ok (.ireturn, 1)) : ML V l Y_L_law d C S Kc ck sk (mx_LZ V) pc lv [.int 1] h := by
  intro p e R s m args below meth c H locs ls F hl hP hS T hT X
  by_cases hv : V.1 32 = s.heap.size
  · have k : W p l e R s m args below meth c H locs ck sk (lw_Z below args s) (F0 m pc ls [.int 1]) := by
      refine va_forget (fun q hq => ?_) (W.widen (k := 601024) (n := 7293034) hck hsk (lw_retG (mx_dn F).1 (mx_dn F).2.1 (mx_dn F).2.2.1 (mx_dn F).2.2.2.1 hd))
      have := hS.2.2 q hq
      rw [← hv]
      exact this
    obtain ⟨t, a1, b1⟩ := k T hT X
    exact ⟨t, a1, fun _ _ => b1⟩
  · exact ⟨_, Steps.refl _, fun _ q => absurd q hv⟩
theorem mx_next {L : Nat} {i : Int32} (hL : L ≤ 3584) (h0 : 0 ≤ i.toInt) (c : ¬ (Int32.ofNat L - 7) < i) : (i + 7).toInt = i.toInt + 7 ∧ i.toInt + 7 ≤ 3584 := by
  have c1 := Int32.not_lt.mp c
  rw [Int32.le_iff_toInt_le, Int32.toInt_sub, mp_ofNat_toInt0 (by omega)] at c1
  have e7 : (7 : Int32).toInt = 7 := by decide
  rw [e7] at c1
  have hb : ((L : Int) - 7).bmod (2 ^ 32) = (L : Int) - 7 := by
    apply Int.bmod_eq_of_le <;> omega
  rw [hb] at c1
  refine ⟨?_, by omega⟩
  rw [Int32.toInt_add, e7]
  apply Int.bmod_eq_of_le <;> omega
noncomputable def f_law (L : Nat) (xs : Nat → Int32) (h : mm_H) : Option Int32 := mm_while (σ := (Int32 × mm_H)) (ρ := Int32) (fun s => if ((Int32.ofNat L) - 7) < s.1 then (some (Sum.inr 1)) else ((mm_ix s.1 L).bind fun k1 => if ((xs k1) &&& 31) = 0 then ((mm_ix (s.1 + 1) L).bind fun k3 => (mm_ix (s.1 + 2) L).bind fun k5 => (mm_ix (s.1 + 3) L).bind fun k7 => (mm_ix (s.1 + 4) L).bind fun k9 => (mm_ix (s.1 + 5) L).bind fun k11 => (mm_ix (s.1 + 6) L).bind fun k13 => (f_X_feed (((Int32.toInt64 (xs k3)) <<< (Int32.toInt64 32 &&& 63)) ||| ((Int32.toInt64 (xs k5)) &&& 4294967295)) (((Int32.toInt64 (xs k7)) <<< (Int32.toInt64 32 &&& 63)) ||| ((Int32.toInt64 (xs k9)) &&& 4294967295)) (((Int32.toInt64 (xs k11)) <<< (Int32.toInt64 32 &&& 63)) ||| ((Int32.toInt64 (xs k13)) &&& 4294967295)) s.2).bind fun v16 => (mm_ix (s.1 + 1) L).bind fun k17 => (mm_ix (s.1 + 2) L).bind fun k19 => (mm_ix (s.1 + 3) L).bind fun k21 => (mm_ix (s.1 + 4) L).bind fun k23 => (mm_ix (s.1 + 5) L).bind fun k25 => (mm_ix (s.1 + 6) L).bind fun k27 => (f_M_feed (((Int32.toInt64 (xs k17)) <<< (Int32.toInt64 32 &&& 63)) ||| ((Int32.toInt64 (xs k19)) &&& 4294967295)) (((Int32.toInt64 (xs k21)) <<< (Int32.toInt64 32 &&& 63)) ||| ((Int32.toInt64 (xs k23)) &&& 4294967295)) (((Int32.toInt64 (xs k25)) <<< (Int32.toInt64 32 &&& 63)) ||| ((Int32.toInt64 (xs k27)) &&& 4294967295)) v16.2).bind fun v30 => if v16.1 = v30.1 then (mm_let (s.1 + 7) fun y31 => some (Sum.inl (y31, v30.2))) else (some (Sum.inr 0))) else if ((xs k1) &&& 31) = 1 then ((f_X_town s.2).bind fun v40 => (f_M_town v40.2).bind fun v42 => if v40.1 = v42.1 then (mm_let (s.1 + 7) fun y43 => some (Sum.inl (y43, v42.2))) else (some (Sum.inr 0))) else if ((xs k1) &&& 31) = 2 then ((f_X_gossip s.2).bind fun v52 => (f_M_gossip v52.2).bind fun v54 => if v52.1 = v54.1 then (mm_let (s.1 + 7) fun y55 => some (Sum.inl (y55, v54.2))) else (some (Sum.inr 0))) else if ((xs k1) &&& 31) = 3 then ((mm_ix (s.1 + 1) L).bind fun k63 => (mm_ix (s.1 + 2) L).bind fun k65 => (f_L_person (xs k63) (xs k65) s.2).bind fun v67 => (mm_ix (s.1 + 1) L).bind fun k69 => (mm_ix (s.1 + 2) L).bind fun k71 => (f_M_person (xs k69) (xs k71) v67.2).bind fun v74 => (f_M_thrown v74.2).bind fun v76 => if v76 = v67.1 then (if v67.1 = 0 then (if (lg_cmp (v74.2.2.1 316 0) (Int32.toInt64 v74.1)) = 0 then (mm_let (s.1 + 7) fun y79 => some (Sum.inl (y79, v74.2))) else (some (Sum.inr 0))) else (mm_let (s.1 + 7) fun y77 => some (Sum.inl (y77, v74.2)))) else (some (Sum.inr 0))) else if ((xs k1) &&& 31) = 4 then ((mm_ix (s.1 + 1) L).bind fun k93 => (mm_ix (s.1 + 2) L).bind fun k95 => (f_X_secret (xs k93) (xs k95) s.2).bind fun v98 => (mm_ix (s.1 + 1) L).bind fun k99 => (mm_ix (s.1 + 2) L).bind fun k101 => (f_M_secret (xs k99) (xs k101) v98.2).bind fun v104 => if v98.1 = v104.1 then (mm_let (s.1 + 7) fun y105 => some (Sum.inl (y105, v104.2))) else (some (Sum.inr 0))) else if ((xs k1) &&& 31) = 5 then ((mm_ix (s.1 + 1) L).bind fun k113 => (mm_ix (s.1 + 2) L).bind fun k115 => (mm_ix (s.1 + 3) L).bind fun k117 => (f_X_aware (xs k113) (xs k115) (xs k117) s.2).bind fun v120 => (mm_ix (s.1 + 1) L).bind fun k121 => (mm_ix (s.1 + 2) L).bind fun k123 => (mm_ix (s.1 + 3) L).bind fun k125 => (f_M_aware (xs k121) (xs k123) (xs k125) s.2).bind fun v128 => if v120 = v128.1 then (mm_let (s.1 + 7) fun y129 => some (Sum.inl (y129, v128.2))) else (some (Sum.inr 0))) else if ((xs k1) &&& 31) = 6 then ((mm_ix (s.1 + 1) L).bind fun k137 => (mm_ix (s.1 + 2) L).bind fun k139 => (f_X_ear (xs k137) (xs k139) s.2).bind fun v142 => (mm_ix (s.1 + 1) L).bind fun k143 => (mm_ix (s.1 + 2) L).bind fun k145 => (f_M_ear (xs k143) (xs k145) s.2).bind fun v148 => if v142 = v148.1 then (mm_let (s.1 + 7) fun y149 => some (Sum.inl (y149, v148.2))) else (some (Sum.inr 0))) else if ((xs k1) &&& 31) = 7 then ((mm_ix (s.1 + 1) L).bind fun k157 => (mm_ix (s.1 + 2) L).bind fun k159 => (mm_ix (s.1 + 3) L).bind fun k161 => (f_X_tell (xs k157) (xs k159) (xs k161) s.2).bind fun v164 => (mm_ix (s.1 + 1) L).bind fun k165 => (mm_ix (s.1 + 2) L).bind fun k167 => (mm_ix (s.1 + 3) L).bind fun k169 => (f_M_tell (xs k165) (xs k167) (xs k169) v164.2).bind fun v172 => if v164.1 = v172.1 then (mm_let (s.1 + 7) fun y173 => some (Sum.inl (y173, v172.2))) else (some (Sum.inr 0))) else if ((xs k1) &&& 31) = 8 then ((mm_ix (s.1 + 1) L).bind fun k181 => (mm_ix (s.1 + 2) L).bind fun k183 => (f_X_pay (xs k181) (xs k183) s.2).bind fun v186 => (mm_ix (s.1 + 1) L).bind fun k187 => (mm_ix (s.1 + 2) L).bind fun k189 => (f_M_pay (xs k187) (xs k189) v186.2).bind fun v192 => if v186.1 = v192.1 then (mm_let (s.1 + 7) fun y193 => some (Sum.inl (y193, v192.2))) else (some (Sum.inr 0))) else if ((xs k1) &&& 31) = 9 then ((mm_ix (s.1 + 1) L).bind fun k201 => (f_X_rise (xs k201) s.2).bind fun v204 => (mm_ix (s.1 + 1) L).bind fun k205 => (f_M_rise (xs k205) v204.2).bind fun v208 => if v204.1 = v208.1 then (mm_let (s.1 + 7) fun y209 => some (Sum.inl (y209, v208.2))) else (some (Sum.inr 0))) else if ((xs k1) &&& 31) = 10 then ((f_X_quarter s.2).bind fun v218 => (f_M_quarter v218.2).bind fun v220 => if v218.1 = v220.1 then (mm_let (s.1 + 7) fun y221 => some (Sum.inl (y221, v220.2))) else (some (Sum.inr 0))) else if ((xs k1) &&& 31) = 11 then ((mm_ix (s.1 + 1) L).bind fun k229 => (mm_ix (s.1 + 2) L).bind fun k231 => (mm_ix (s.1 + 3) L).bind fun k233 => (f_X_lend (xs k229) (xs k231) (xs k233) s.2).bind fun v236 => (mm_ix (s.1 + 1) L).bind fun k237 => (mm_ix (s.1 + 2) L).bind fun k239 => (mm_ix (s.1 + 3) L).bind fun k241 => (f_M_lend (xs k237) (xs k239) (xs k241) v236.2).bind fun v244 => if v236.1 = v244.1 then (mm_let (s.1 + 7) fun y245 => some (Sum.inl (y245, v244.2))) else (some (Sum.inr 0))) else if ((xs k1) &&& 31) = 12 then ((f_X_undo s.2).bind fun v254 => (f_M_undo v254.2).bind fun v256 => if v254.1 = v256.1 then (mm_let (s.1 + 7) fun y257 => some (Sum.inl (y257, v256.2))) else (some (Sum.inr 0))) else if ((xs k1) &&& 31) = 13 then ((mm_ix (s.1 + 1) L).bind fun k265 => (f_X_judged (xs k265) s.2).bind fun v268 => (mm_ix (s.1 + 1) L).bind fun k269 => (f_M_judged (xs k269) v268.2).bind fun v272 => if v268.1 = v272.1 then (mm_let (s.1 + 7) fun y273 => some (Sum.inl (y273, v272.2))) else (some (Sum.inr 0))) else if ((xs k1) &&& 31) = 14 then ((mm_ix (s.1 + 1) L).bind fun k281 => (f_X_least (xs k281) s.2).bind fun v284 => (mm_ix (s.1 + 1) L).bind fun k285 => (f_M_least (xs k285) v284.2).bind fun v288 => if v284.1 = v288.1 then (mm_let (s.1 + 7) fun y289 => some (Sum.inl (y289, v288.2))) else (some (Sum.inr 0))) else if ((xs k1) &&& 31) = 15 then ((f_X_payers s.2).bind fun v298 => (f_M_payers v298.2).bind fun v300 => if v298.1 = v300.1 then (mm_let (s.1 + 7) fun y301 => some (Sum.inl (y301, v300.2))) else (some (Sum.inr 0))) else if ((xs k1) &&& 31) = 16 then ((mm_ix (s.1 + 1) L).bind fun k309 => (mm_ix (s.1 + 2) L).bind fun k311 => (mm_ix (s.1 + 3) L).bind fun k313 => (mm_ix (s.1 + 4) L).bind fun k315 => (f_L_plot (xs k309) (xs k311) (xs k313) (xs k315) s.2).bind fun v317 => (mm_ix (s.1 + 1) L).bind fun k319 => (mm_ix (s.1 + 2) L).bind fun k321 => (mm_ix (s.1 + 3) L).bind fun k323 => (mm_ix (s.1 + 4) L).bind fun k325 => (f_M_plot (xs k319) (xs k321) (xs k323) (xs k325) v317.2).bind fun v328 => (f_M_thrown v328.2).bind fun v330 => if v330 = v317.1 then (if v317.1 = 0 then (if (lg_cmp (v328.2.2.1 316 0) (Int32.toInt64 v328.1)) = 0 then (mm_let (s.1 + 7) fun y333 => some (Sum.inl (y333, v328.2))) else (some (Sum.inr 0))) else (mm_let (s.1 + 7) fun y331 => some (Sum.inl (y331, v328.2)))) else (some (Sum.inr 0))) else if ((xs k1) &&& 31) = 17 then ((mm_ix (s.1 + 1) L).bind fun k347 => (mm_ix (s.1 + 2) L).bind fun k349 => (if (xs k349) = 0 then (some 0) else (some 1) : Option Int32).bind fun j351 => (f_X_see (xs k347) j351 s.2).bind fun v357 => (mm_ix (s.1 + 1) L).bind fun k358 => (mm_ix (s.1 + 2) L).bind fun k360 => (if (xs k360) = 0 then (some 0) else (some 1) : Option Int32).bind fun j362 => (f_M_see (xs k358) j362 v357.2).bind fun v368 => if v357.1 = v368.1 then (mm_let (s.1 + 7) fun y369 => some (Sum.inl (y369, v368.2))) else (some (Sum.inr 0))) else if ((xs k1) &&& 31) = 18 then ((mm_ix (s.1 + 1) L).bind fun k379 => (f_X_leaks (xs k379) s.2).bind fun v382 => (mm_ix (s.1 + 1) L).bind fun k383 => (f_M_leaks (xs k383) v382.2).bind fun v386 => if v382.1 = v386.1 then (mm_let (s.1 + 7) fun y387 => some (Sum.inl (y387, v386.2))) else (some (Sum.inr 0))) else if ((xs k1) &&& 31) = 19 then ((mm_ix (s.1 + 1) L).bind fun k395 => (f_X_lies (xs k395) s.2).bind fun v398 => (mm_ix (s.1 + 1) L).bind fun k399 => (f_M_lies (xs k399) v398.2).bind fun v402 => if v398.1 = v402.1 then (mm_let (s.1 + 7) fun y403 => some (Sum.inl (y403, v402.2))) else (some (Sum.inr 0))) else if ((xs k1) &&& 31) = 20 then ((mm_ix (s.1 + 1) L).bind fun k411 => (mm_ix (s.1 + 2) L).bind fun k413 => (f_X_mean (xs k411) (xs k413) s.2).bind fun v416 => (mm_ix (s.1 + 1) L).bind fun k417 => (mm_ix (s.1 + 2) L).bind fun k419 => (f_M_mean (xs k417) (xs k419) v416.2).bind fun v422 => if v416.1 = v422.1 then (mm_let (s.1 + 7) fun y423 => some (Sum.inl (y423, v422.2))) else (some (Sum.inr 0))) else if ((xs k1) &&& 31) = 21 then ((mm_ix (s.1 + 1) L).bind fun k431 => (mm_ix (s.1 + 2) L).bind fun k433 => (f_X_holds (xs k431) (xs k433) s.2).bind fun v436 => (mm_ix (s.1 + 1) L).bind fun k437 => (mm_ix (s.1 + 2) L).bind fun k439 => (f_M_holds (xs k437) (xs k439) v436.2).bind fun v442 => if v436.1 = v442.1 then (mm_let (s.1 + 7) fun y443 => some (Sum.inl (y443, v442.2))) else (some (Sum.inr 0))) else if ((xs k1) &&& 31) = 22 then ((f_X_settle s.2).bind fun v452 => (f_M_settle v452.2).bind fun v454 => if v452.1 = v454.1 then (mm_let (s.1 + 7) fun y455 => some (Sum.inl (y455, v454.2))) else (some (Sum.inr 0))) else if ((xs k1) &&& 31) = 23 then ((mm_ix (s.1 + 1) L).bind fun k463 => (mm_ix (s.1 + 2) L).bind fun k465 => (f_X_rests (xs k463) (xs k465) s.2).bind fun v468 => (mm_ix (s.1 + 1) L).bind fun k469 => (mm_ix (s.1 + 2) L).bind fun k471 => (f_M_rests (xs k469) (xs k471) v468.2).bind fun v474 => if v468.1 = v474.1 then (mm_let (s.1 + 7) fun y475 => some (Sum.inl (y475, v474.2))) else (some (Sum.inr 0))) else if ((xs k1) &&& 31) = 24 then ((mm_ix (s.1 + 1) L).bind fun k483 => (mm_ix (s.1 + 2) L).bind fun k485 => (mm_ix (s.1 + 3) L).bind fun k487 => (f_X_years (xs k483) (xs k485) (xs k487) s.2).bind fun v490 => (mm_ix (s.1 + 1) L).bind fun k491 => (mm_ix (s.1 + 2) L).bind fun k493 => (mm_ix (s.1 + 3) L).bind fun k495 => (f_M_years (xs k491) (xs k493) (xs k495) v490.2).bind fun v498 => if v490.1 = v498.1 then (mm_let (s.1 + 7) fun y499 => some (Sum.inl (y499, v498.2))) else (some (Sum.inr 0))) else if ((xs k1) &&& 31) = 25 then ((mm_ix (s.1 + 1) L).bind fun k507 => (mm_ix (s.1 + 2) L).bind fun k509 => (if (xs k509) = 0 then (some 0) else (some 1) : Option Int32).bind fun j511 => (f_X_mark (xs k507) j511 s.2).bind fun v517 => (mm_ix (s.1 + 1) L).bind fun k518 => (mm_ix (s.1 + 2) L).bind fun k520 => (if (xs k520) = 0 then (some 0) else (some 1) : Option Int32).bind fun j522 => (f_M_mark (xs k518) j522 v517.2).bind fun v528 => if v517.1 = v528.1 then (mm_let (s.1 + 7) fun y529 => some (Sum.inl (y529, v528.2))) else (some (Sum.inr 0))) else if ((xs k1) &&& 31) = 26 then ((mm_ix (s.1 + 1) L).bind fun k539 => (f_X_count (xs k539) s.2).bind fun v542 => (mm_ix (s.1 + 1) L).bind fun k543 => (f_M_count (xs k543) v542.2).bind fun v546 => if v542.1 = v546.1 then (mm_let (s.1 + 7) fun y547 => some (Sum.inl (y547, v546.2))) else (some (Sum.inr 0))) else (mm_let (s.1 + 7) fun y555 => some (Sum.inl (y555, s.2))))) (0, h)
set_option maxHeartbeats 4000000 in
theorem T_law (V : mm_V) (l : Launch) (hl9 : l.stackTraces = false) (hL : V.2.2.2.1 ≤ 3584) (h : mm_H) (hf : f_law V.2.2.2.1 V.2.2.2.2 h = some 1) : ML V l Y_L_law 1000 601024 7293034 (fun _ => True) 285 86817 (mx_LZ V) 20 [(3, .ref 316), (2, .ref 261), (1, .ref 32), (0, .ref 31)] [] h := by
  unfold f_law at hf
  generalize hZ : mx_LZ V = Z0
  refine ML.iconst ic_0 d_L_law_20 rfl ?_
  refine ML.istore (lv' := [(4, .int 0), (3, .ref 316), (2, .ref 261), (1, .ref 32), (0, .ref 31)]) rfl (Nat.le_of_ble_eq_true rfl) rfl d_L_law_21 rfl ?_
  have K0 := mm_while_ind (fun s => ∀ ck sk : Nat, 0 ≤ (s.1).toInt → (s.1).toInt ≤ 3584 → (ck : Int) ≤ 285 + (s.1).toInt → (sk : Int) ≤ 86817 + 6 * (s.1).toInt → ML V l Y_L_law 1000 601024 7293034 (fun _ => True) ck sk Z0 23 [(0, .ref 31), (1, .ref 32), (2, .ref 261), (3, .ref 316), (4, .int s.1)] [] s.2) hf (fun s q hf hx => ?_)
  · exact ML.sub [4, 3, 2, 1, 0] (by rfl) (K0 285 86817 (by dsimp only; decide) (by dsimp only; decide) (by dsimp only; decide) (by dsimp only; decide))
  intro ck sk b1 b2 b3 b4
  refine ML.iload rfl d_L_law_23 rfl ?_
  refine ML.aload_n (i := 0) rfl rfl d_L_law_25 rfl ?_
  refine ML.slen d_L_law_26 rfl ?_
  refine ML.bipush bp_7 d_L_law_27 rfl ?_
  refine ML.isub d_L_law_29 rfl ?_
  obtain ⟨m558, m559⟩ := mm_ifE hf
  refine ML.icmp_gt (tgt := 1229) d_L_law_30 rfl rfl (fun c557 => ?_) (fun c557 => ?_)
  · replace hf := m558 c557
    refine ML.iconst ic_1 d_L_law_1229 rfl ?_
    obtain rfl := Option.some.inj hf
    replace hf := mm_wxR hx
    subst hZ
    exact ML.lwret (by omega) (by omega) d_L_law_1230
  · replace hf := m559 c557
    obtain ⟨n1, n2⟩ := mx_next hL b1 c557
    refine ML.aload_n (i := 0) rfl rfl d_L_law_33 rfl ?_
    refine ML.iload rfl d_L_law_34 rfl ?_
    obtain ⟨k1, e2, hf⟩ := mm_bind hf
    refine ML.sld e2 d_L_law_36 rfl ?_
    refine ML.bipush bp_31 d_L_law_37 rfl ?_
    refine ML.iand d_L_law_39 rfl ?_
    obtain ⟨m36, m37⟩ := mm_ifE hf
    by_cases c38 : ((V.2.2.2.2 k1) &&& 31) = 0
    · replace hf := m36 c38
      refine ML.tableIn (tgt := 164) 0 (by rw [c38]; decide +kernel) (by decide) d_L_law_40 rfl rfl ?_
      refine ML.aload_n (i := 1) rfl rfl d_L_law_164 rfl ?_
      refine ML.aload_n (i := 0) rfl rfl d_L_law_165 rfl ?_
      refine ML.iload rfl d_L_law_166 rfl ?_
      refine ML.iconst ic_1 d_L_law_168 rfl ?_
      refine ML.iadd d_L_law_169 rfl ?_
      obtain ⟨k3, e4, hf⟩ := mm_bind hf
      refine ML.sld e4 d_L_law_170 rfl ?_
      refine ML.i2l d_L_law_171 rfl ?_
      refine ML.bipush bp_32 d_L_law_172 rfl ?_
      refine ML.lshl d_L_law_174 rfl ?_
      refine ML.aload_n (i := 0) rfl rfl d_L_law_175 rfl ?_
      refine ML.iload rfl d_L_law_176 rfl ?_
      refine ML.iconst ic_2 d_L_law_178 rfl ?_
      refine ML.iadd d_L_law_179 rfl ?_
      obtain ⟨k5, e6, hf⟩ := mm_bind hf
      refine ML.sld e6 d_L_law_180 rfl ?_
      refine ML.i2l d_L_law_181 rfl ?_
      refine ML.ldc2 ww_2031 d_L_law_182 rfl ?_
      refine ML.land d_L_law_185 rfl ?_
      refine ML.lor d_L_law_186 rfl ?_
      refine ML.aload_n (i := 0) rfl rfl d_L_law_187 rfl ?_
      refine ML.iload rfl d_L_law_188 rfl ?_
      refine ML.iconst ic_3 d_L_law_190 rfl ?_
      refine ML.iadd d_L_law_191 rfl ?_
      obtain ⟨k7, e8, hf⟩ := mm_bind hf
      refine ML.sld e8 d_L_law_192 rfl ?_
      refine ML.i2l d_L_law_193 rfl ?_
      refine ML.bipush bp_32 d_L_law_194 rfl ?_
      refine ML.lshl d_L_law_196 rfl ?_
      refine ML.aload_n (i := 0) rfl rfl d_L_law_197 rfl ?_
      refine ML.iload rfl d_L_law_198 rfl ?_
      refine ML.iconst ic_4 d_L_law_200 rfl ?_
      refine ML.iadd d_L_law_201 rfl ?_
      obtain ⟨k9, e10, hf⟩ := mm_bind hf
      refine ML.sld e10 d_L_law_202 rfl ?_
      refine ML.i2l d_L_law_203 rfl ?_
      refine ML.ldc2 ww_2031 d_L_law_204 rfl ?_
      refine ML.land d_L_law_207 rfl ?_
      refine ML.lor d_L_law_208 rfl ?_
      refine ML.aload_n (i := 0) rfl rfl d_L_law_209 rfl ?_
      refine ML.iload rfl d_L_law_210 rfl ?_
      refine ML.iconst ic_5 d_L_law_212 rfl ?_
      refine ML.iadd d_L_law_213 rfl ?_
      obtain ⟨k11, e12, hf⟩ := mm_bind hf
      refine ML.sld e12 d_L_law_214 rfl ?_
      refine ML.i2l d_L_law_215 rfl ?_
      refine ML.bipush bp_32 d_L_law_216 rfl ?_
      refine ML.lshl d_L_law_218 rfl ?_
      refine ML.aload_n (i := 0) rfl rfl d_L_law_219 rfl ?_
      refine ML.iload rfl d_L_law_220 rfl ?_
      refine ML.bipush bp_6 d_L_law_222 rfl ?_
      refine ML.iadd d_L_law_224 rfl ?_
      obtain ⟨k13, e14, hf⟩ := mm_bind hf
      refine ML.sld e14 d_L_law_225 rfl ?_
      refine ML.i2l d_L_law_226 rfl ?_
      refine ML.ldc2 ww_2031 d_L_law_227 rfl ?_
      refine ML.land d_L_law_230 rfl ?_
      refine ML.lor d_L_law_231 rfl ?_
      obtain ⟨v16, e15, hf⟩ := mm_bind hf
      refine ML.callV1g (T_X_feed V l (((Int32.toInt64 (V.2.2.2.2 k3)) <<< (Int32.toInt64 32 &&& 63)) ||| ((Int32.toInt64 (V.2.2.2.2 k5)) &&& 4294967295)) (((Int32.toInt64 (V.2.2.2.2 k7)) <<< (Int32.toInt64 32 &&& 63)) ||| ((Int32.toInt64 (V.2.2.2.2 k9)) &&& 4294967295)) (((Int32.toInt64 (V.2.2.2.2 k11)) <<< (Int32.toInt64 32 &&& 63)) ||| ((Int32.toInt64 (V.2.2.2.2 k13)) &&& 4294967295)) s.2 _ e15) (fun _ _ q => q) cal_X_feed rfl tg_32 ct_8 ww_535 ww_534 ww_533 (by decide) (by simp [Value.category]) d_L_law_232 rfl rfl ?_
      refine ML.aload_n (i := 2) rfl rfl d_L_law_235 rfl ?_
      refine ML.aload_n (i := 0) rfl rfl d_L_law_236 rfl ?_
      refine ML.iload rfl d_L_law_237 rfl ?_
      refine ML.iconst ic_1 d_L_law_239 rfl ?_
      refine ML.iadd d_L_law_240 rfl ?_
      obtain ⟨k17, e18, hf⟩ := mm_bind hf
      refine ML.sld e18 d_L_law_241 rfl ?_
      refine ML.i2l d_L_law_242 rfl ?_
      refine ML.bipush bp_32 d_L_law_243 rfl ?_
      refine ML.lshl d_L_law_245 rfl ?_
      refine ML.aload_n (i := 0) rfl rfl d_L_law_246 rfl ?_
      refine ML.iload rfl d_L_law_247 rfl ?_
      refine ML.iconst ic_2 d_L_law_249 rfl ?_
      refine ML.iadd d_L_law_250 rfl ?_
      obtain ⟨k19, e20, hf⟩ := mm_bind hf
      refine ML.sld e20 d_L_law_251 rfl ?_
      refine ML.i2l d_L_law_252 rfl ?_
      refine ML.ldc2 ww_2031 d_L_law_253 rfl ?_
      refine ML.land d_L_law_256 rfl ?_
      refine ML.lor d_L_law_257 rfl ?_
      refine ML.aload_n (i := 0) rfl rfl d_L_law_258 rfl ?_
      refine ML.iload rfl d_L_law_259 rfl ?_
      refine ML.iconst ic_3 d_L_law_261 rfl ?_
      refine ML.iadd d_L_law_262 rfl ?_
      obtain ⟨k21, e22, hf⟩ := mm_bind hf
      refine ML.sld e22 d_L_law_263 rfl ?_
      refine ML.i2l d_L_law_264 rfl ?_
      refine ML.bipush bp_32 d_L_law_265 rfl ?_
      refine ML.lshl d_L_law_267 rfl ?_
      refine ML.aload_n (i := 0) rfl rfl d_L_law_268 rfl ?_
      refine ML.iload rfl d_L_law_269 rfl ?_
      refine ML.iconst ic_4 d_L_law_271 rfl ?_
      refine ML.iadd d_L_law_272 rfl ?_
      obtain ⟨k23, e24, hf⟩ := mm_bind hf
      refine ML.sld e24 d_L_law_273 rfl ?_
      refine ML.i2l d_L_law_274 rfl ?_
      refine ML.ldc2 ww_2031 d_L_law_275 rfl ?_
      refine ML.land d_L_law_278 rfl ?_
      refine ML.lor d_L_law_279 rfl ?_
      refine ML.aload_n (i := 0) rfl rfl d_L_law_280 rfl ?_
      refine ML.iload rfl d_L_law_281 rfl ?_
      refine ML.iconst ic_5 d_L_law_283 rfl ?_
      refine ML.iadd d_L_law_284 rfl ?_
      obtain ⟨k25, e26, hf⟩ := mm_bind hf
      refine ML.sld e26 d_L_law_285 rfl ?_
      refine ML.i2l d_L_law_286 rfl ?_
      refine ML.bipush bp_32 d_L_law_287 rfl ?_
      refine ML.lshl d_L_law_289 rfl ?_
      refine ML.aload_n (i := 0) rfl rfl d_L_law_290 rfl ?_
      refine ML.iload rfl d_L_law_291 rfl ?_
      refine ML.bipush bp_6 d_L_law_293 rfl ?_
      refine ML.iadd d_L_law_295 rfl ?_
      obtain ⟨k27, e28, hf⟩ := mm_bind hf
      refine ML.sld e28 d_L_law_296 rfl ?_
      refine ML.i2l d_L_law_297 rfl ?_
      refine ML.ldc2 ww_2031 d_L_law_298 rfl ?_
      refine ML.land d_L_law_301 rfl ?_
      refine ML.lor d_L_law_302 rfl ?_
      obtain ⟨v30, e29, hf⟩ := mm_bind hf
      refine ML.callV1g (T_M_feed V l (((Int32.toInt64 (V.2.2.2.2 k17)) <<< (Int32.toInt64 32 &&& 63)) ||| ((Int32.toInt64 (V.2.2.2.2 k19)) &&& 4294967295)) (((Int32.toInt64 (V.2.2.2.2 k21)) <<< (Int32.toInt64 32 &&& 63)) ||| ((Int32.toInt64 (V.2.2.2.2 k23)) &&& 4294967295)) (((Int32.toInt64 (V.2.2.2.2 k25)) <<< (Int32.toInt64 32 &&& 63)) ||| ((Int32.toInt64 (V.2.2.2.2 k27)) &&& 4294967295)) v16.2 _ e29) (fun _ _ q => q) cal_M_feed rfl tg_261 ct_9 ww_1576 ww_1575 ww_1574 (by decide) (by simp [Value.category]) d_L_law_303 rfl rfl ?_
      obtain ⟨m34, m35⟩ := mm_ifE hf
      refine ML.icmp_eq (tgt := 1223) d_L_law_306 rfl rfl (fun c33 => ?_) (fun c33 => ?_)
      · replace hf := m34 c33
        obtain ⟨y31, e32, hf⟩ := mm_letE hf
        refine ML.iinc (k0 := 4) (lv' := [(4, .int y31), (0, .ref 31), (1, .ref 32), (2, .ref 261), (3, .ref 316)]) (by rw [ic_7]; exact e32) rfl (Nat.le_of_ble_eq_true rfl) rfl d_L_law_1223 rfl ?_
        refine ML.goto (tgt := 23) d_L_law_1226 rfl ?_
        obtain rfl := Option.some.inj hf
        have h9 := mm_wxL hx
        have n3 : (y31 : Int32).toInt = (s.1).toInt + 7 := by rw [e32]; exact n1
        exact ML.sub [1, 2, 3, 4, 0] (by rfl) (h9 _ _ (by dsimp only; omega) (by dsimp only; omega) (by dsimp only; omega) (by dsimp only; omega))
      · replace hf := m35 c33
        refine ML.iconst ic_0 d_L_law_309 rfl ?_
        obtain rfl := Option.some.inj hf
        replace hf := mm_wxR hx
        exact absurd (Option.some.inj hf) (by decide)
    replace hf := m37 c38
    obtain ⟨m48, m49⟩ := mm_ifE hf
    by_cases c50 : ((V.2.2.2.2 k1) &&& 31) = 1
    · replace hf := m48 c50
      refine ML.tableIn (tgt := 311) 1 (by rw [c50]; decide +kernel) (by decide) d_L_law_40 rfl rfl ?_
      refine ML.aload_n (i := 1) rfl rfl d_L_law_311 rfl ?_
      obtain ⟨v40, e39, hf⟩ := mm_bind hf
      refine ML.callV1g (T_X_town V l  s.2 _ e39) (fun _ _ q => q) cal_X_town rfl tg_32 ct_8 ww_543 ww_542 ww_541 (by decide) (by simp [Value.category]) d_L_law_312 rfl rfl ?_
      refine ML.aload_n (i := 2) rfl rfl d_L_law_315 rfl ?_
      obtain ⟨v42, e41, hf⟩ := mm_bind hf
      refine ML.callV1g (T_M_town V l  v40.2 _ e41) (fun _ _ q => q) cal_M_town rfl tg_261 ct_9 ww_1581 ww_1580 ww_1579 (by decide) (by simp [Value.category]) d_L_law_316 rfl rfl ?_
      obtain ⟨m46, m47⟩ := mm_ifE hf
      refine ML.icmp_eq (tgt := 1223) d_L_law_319 rfl rfl (fun c45 => ?_) (fun c45 => ?_)
      · replace hf := m46 c45
        obtain ⟨y43, e44, hf⟩ := mm_letE hf
        refine ML.iinc (k0 := 4) (lv' := [(4, .int y43), (0, .ref 31), (1, .ref 32), (2, .ref 261), (3, .ref 316)]) (by rw [ic_7]; exact e44) rfl (Nat.le_of_ble_eq_true rfl) rfl d_L_law_1223 rfl ?_
        refine ML.goto (tgt := 23) d_L_law_1226 rfl ?_
        obtain rfl := Option.some.inj hf
        have h9 := mm_wxL hx
        have n3 : (y43 : Int32).toInt = (s.1).toInt + 7 := by rw [e44]; exact n1
        exact ML.sub [1, 2, 3, 4, 0] (by rfl) (h9 _ _ (by dsimp only; omega) (by dsimp only; omega) (by dsimp only; omega) (by dsimp only; omega))
      · replace hf := m47 c45
        refine ML.iconst ic_0 d_L_law_322 rfl ?_
        obtain rfl := Option.some.inj hf
        replace hf := mm_wxR hx
        exact absurd (Option.some.inj hf) (by decide)
    replace hf := m49 c50
    obtain ⟨m60, m61⟩ := mm_ifE hf
    by_cases c62 : ((V.2.2.2.2 k1) &&& 31) = 2
    · replace hf := m60 c62
      refine ML.tableIn (tgt := 324) 2 (by rw [c62]; decide +kernel) (by decide) d_L_law_40 rfl rfl ?_
      refine ML.aload_n (i := 1) rfl rfl d_L_law_324 rfl ?_
      obtain ⟨v52, e51, hf⟩ := mm_bind hf
      refine ML.callV1g (T_X_gossip V l  s.2 _ e51) (fun _ _ q => q) cal_X_gossip rfl tg_32 ct_8 ww_840 ww_839 ww_838 (by decide) (by simp [Value.category]) d_L_law_325 rfl rfl ?_
      refine ML.aload_n (i := 2) rfl rfl d_L_law_328 rfl ?_
      obtain ⟨v54, e53, hf⟩ := mm_bind hf
      refine ML.callV1g (T_M_gossip V l  v52.2 _ e53) (fun _ _ q => q) cal_M_gossip rfl tg_261 ct_9 ww_1739 ww_1738 ww_1737 (by decide) (by simp [Value.category]) d_L_law_329 rfl rfl ?_
      obtain ⟨m58, m59⟩ := mm_ifE hf
      refine ML.icmp_eq (tgt := 1223) d_L_law_332 rfl rfl (fun c57 => ?_) (fun c57 => ?_)
      · replace hf := m58 c57
        obtain ⟨y55, e56, hf⟩ := mm_letE hf
        refine ML.iinc (k0 := 4) (lv' := [(4, .int y55), (0, .ref 31), (1, .ref 32), (2, .ref 261), (3, .ref 316)]) (by rw [ic_7]; exact e56) rfl (Nat.le_of_ble_eq_true rfl) rfl d_L_law_1223 rfl ?_
        refine ML.goto (tgt := 23) d_L_law_1226 rfl ?_
        obtain rfl := Option.some.inj hf
        have h9 := mm_wxL hx
        have n3 : (y55 : Int32).toInt = (s.1).toInt + 7 := by rw [e56]; exact n1
        exact ML.sub [1, 2, 3, 4, 0] (by rfl) (h9 _ _ (by dsimp only; omega) (by dsimp only; omega) (by dsimp only; omega) (by dsimp only; omega))
      · replace hf := m59 c57
        refine ML.iconst ic_0 d_L_law_335 rfl ?_
        obtain rfl := Option.some.inj hf
        replace hf := mm_wxR hx
        exact absurd (Option.some.inj hf) (by decide)
    replace hf := m61 c62
    obtain ⟨m90, m91⟩ := mm_ifE hf
    by_cases c92 : ((V.2.2.2.2 k1) &&& 31) = 3
    · replace hf := m90 c92
      refine ML.tableIn (tgt := 337) 3 (by rw [c92]; decide +kernel) (by decide) d_L_law_40 rfl rfl ?_
      refine ML.aload_n (i := 1) rfl rfl d_L_law_337 rfl ?_
      refine ML.aload_n (i := 0) rfl rfl d_L_law_338 rfl ?_
      refine ML.iload rfl d_L_law_339 rfl ?_
      refine ML.iconst ic_1 d_L_law_341 rfl ?_
      refine ML.iadd d_L_law_342 rfl ?_
      obtain ⟨k63, e64, hf⟩ := mm_bind hf
      refine ML.sld e64 d_L_law_343 rfl ?_
      refine ML.aload_n (i := 0) rfl rfl d_L_law_344 rfl ?_
      refine ML.iload rfl d_L_law_345 rfl ?_
      refine ML.iconst ic_2 d_L_law_347 rfl ?_
      refine ML.iadd d_L_law_348 rfl ?_
      obtain ⟨k65, e66, hf⟩ := mm_bind hf
      refine ML.sld e66 d_L_law_349 rfl ?_
      refine ML.aload_n (i := 3) rfl rfl d_L_law_350 rfl ?_
      obtain ⟨v67, e68, hf⟩ := mm_bind hf
      refine ML.callSX (np := 4) (T_L_person V l hl9 (V.2.2.2.2 k63) (V.2.2.2.2 k65) _ _ e68) (fun _ _ q => q) ww_1247 ww_109 ⟨by decide +kernel, by decide +kernel, by decide +kernel⟩ (by decide) rfl ww_1246 ww_1245 (by decide) (by simp [Value.category]) d_L_law_351 rfl (by omega) (by omega) rfl ?_
      refine ML.istore (lv' := [(5, .int v67.1), (0, .ref 31), (1, .ref 32), (2, .ref 261), (3, .ref 316), (4, .int s.1)]) rfl (Nat.le_of_ble_eq_true rfl) rfl d_L_law_354 rfl ?_
      refine ML.aload_n (i := 2) rfl rfl d_L_law_356 rfl ?_
      refine ML.aload_n (i := 0) rfl rfl d_L_law_357 rfl ?_
      refine ML.iload rfl d_L_law_358 rfl ?_
      refine ML.iconst ic_1 d_L_law_360 rfl ?_
      refine ML.iadd d_L_law_361 rfl ?_
      obtain ⟨k69, e70, hf⟩ := mm_bind hf
      refine ML.sld e70 d_L_law_362 rfl ?_
      refine ML.aload_n (i := 0) rfl rfl d_L_law_363 rfl ?_
      refine ML.iload rfl d_L_law_364 rfl ?_
      refine ML.iconst ic_2 d_L_law_366 rfl ?_
      refine ML.iadd d_L_law_367 rfl ?_
      obtain ⟨k71, e72, hf⟩ := mm_bind hf
      refine ML.sld e72 d_L_law_368 rfl ?_
      obtain ⟨v74, e73, hf⟩ := mm_bind hf
      refine ML.callV1g (T_M_person V l (V.2.2.2.2 k69) (V.2.2.2.2 k71) v67.2 _ e73) (fun _ _ q => q) cal_M_person rfl tg_261 ct_9 ww_1763 ww_1762 ww_1761 (by decide) (by simp [Value.category]) d_L_law_369 rfl rfl ?_
      refine ML.istore (lv' := [(6, .int v74.1), (5, .int v67.1), (0, .ref 31), (1, .ref 32), (2, .ref 261), (3, .ref 316), (4, .int s.1)]) rfl (Nat.le_of_ble_eq_true rfl) rfl d_L_law_372 rfl ?_
      refine ML.aload_n (i := 2) rfl rfl d_L_law_374 rfl ?_
      obtain ⟨v76, e75, hf⟩ := mm_bind hf
      refine ML.callV1g (T_M_thrown V l  v74.2 _ e75) (fun _ _ q => q) cal_M_thrown rfl tg_261 ct_9 ww_1572 ww_1571 ww_1570 (by decide) (by simp [Value.category]) d_L_law_375 rfl rfl ?_
      refine ML.iload rfl d_L_law_378 rfl ?_
      obtain ⟨m88, m89⟩ := mm_ifE hf
      refine ML.icmp_eq (tgt := 385) d_L_law_380 rfl rfl (fun c87 => ?_) (fun c87 => ?_)
      · replace hf := m88 c87
        refine ML.iload rfl d_L_law_385 rfl ?_
        obtain ⟨m85, m86⟩ := mm_ifE hf
        refine ML.if_ne (tgt := 402) d_L_law_387 rfl rfl (fun c84 => ?_) (fun c84 => ?_)
        · replace hf := m86 c84
          refine ML.goto (tgt := 1223) d_L_law_402 rfl ?_
          obtain ⟨y77, e78, hf⟩ := mm_letE hf
          refine ML.iinc (k0 := 6) (lv' := [(4, .int y77), (6, .int v74.1), (5, .int v67.1), (0, .ref 31), (1, .ref 32), (2, .ref 261), (3, .ref 316)]) (by rw [ic_7]; exact e78) rfl (Nat.le_of_ble_eq_true rfl) rfl d_L_law_1223 rfl ?_
          refine ML.goto (tgt := 23) d_L_law_1226 rfl ?_
          obtain rfl := Option.some.inj hf
          have h9 := mm_wxL hx
          have n3 : (y77 : Int32).toInt = (s.1).toInt + 7 := by rw [e78]; exact n1
          exact ML.sub [3, 4, 5, 6, 0] (by rfl) (h9 _ _ (by dsimp only; omega) (by dsimp only; omega) (by dsimp only; omega) (by dsimp only; omega))
        · replace hf := m85 c84
          refine ML.aload_n (i := 3) rfl rfl d_L_law_390 rfl ?_
          refine ML.iconst ic_0 d_L_law_391 rfl ?_
          refine ML.gL ix_0_1 al_316 d_L_law_392 rfl ?_
          refine ML.iload rfl d_L_law_393 rfl ?_
          refine ML.i2l d_L_law_395 rfl ?_
          refine ML.lcmp d_L_law_396 rfl ?_
          obtain ⟨m82, m83⟩ := mm_ifE hf
          refine ML.if_eq (tgt := 402) d_L_law_397 rfl rfl (fun c81 => ?_) (fun c81 => ?_)
          · replace hf := m82 c81
            refine ML.goto (tgt := 1223) d_L_law_402 rfl ?_
            obtain ⟨y79, e80, hf⟩ := mm_letE hf
            refine ML.iinc (k0 := 6) (lv' := [(4, .int y79), (6, .int v74.1), (5, .int v67.1), (0, .ref 31), (1, .ref 32), (2, .ref 261), (3, .ref 316)]) (by rw [ic_7]; exact e80) rfl (Nat.le_of_ble_eq_true rfl) rfl d_L_law_1223 rfl ?_
            refine ML.goto (tgt := 23) d_L_law_1226 rfl ?_
            obtain rfl := Option.some.inj hf
            have h9 := mm_wxL hx
            have n3 : (y79 : Int32).toInt = (s.1).toInt + 7 := by rw [e80]; exact n1
            exact ML.sub [3, 4, 5, 6, 0] (by rfl) (h9 _ _ (by dsimp only; omega) (by dsimp only; omega) (by dsimp only; omega) (by dsimp only; omega))
          · replace hf := m83 c81
            refine ML.iconst ic_0 d_L_law_400 rfl ?_
            obtain rfl := Option.some.inj hf
            replace hf := mm_wxR hx
            exact absurd (Option.some.inj hf) (by decide)
      · replace hf := m89 c87
        refine ML.iconst ic_0 d_L_law_383 rfl ?_
        obtain rfl := Option.some.inj hf
        replace hf := mm_wxR hx
        exact absurd (Option.some.inj hf) (by decide)
    replace hf := m91 c92
    obtain ⟨m110, m111⟩ := mm_ifE hf
    by_cases c112 : ((V.2.2.2.2 k1) &&& 31) = 4
    · replace hf := m110 c112
      refine ML.tableIn (tgt := 405) 4 (by rw [c112]; decide +kernel) (by decide) d_L_law_40 rfl rfl ?_
      refine ML.aload_n (i := 1) rfl rfl d_L_law_405 rfl ?_
      refine ML.aload_n (i := 0) rfl rfl d_L_law_406 rfl ?_
      refine ML.iload rfl d_L_law_407 rfl ?_
      refine ML.iconst ic_1 d_L_law_409 rfl ?_
      refine ML.iadd d_L_law_410 rfl ?_
      obtain ⟨k93, e94, hf⟩ := mm_bind hf
      refine ML.sld e94 d_L_law_411 rfl ?_
      refine ML.aload_n (i := 0) rfl rfl d_L_law_412 rfl ?_
      refine ML.iload rfl d_L_law_413 rfl ?_
      refine ML.iconst ic_2 d_L_law_415 rfl ?_
      refine ML.iadd d_L_law_416 rfl ?_
      obtain ⟨k95, e96, hf⟩ := mm_bind hf
      refine ML.sld e96 d_L_law_417 rfl ?_
      obtain ⟨v98, e97, hf⟩ := mm_bind hf
      refine ML.callV1g (T_X_secret V l (V.2.2.2.2 k93) (V.2.2.2.2 k95) s.2 _ e97) (fun _ _ q => q) cal_X_secret rfl tg_32 ct_8 ww_881 ww_880 ww_879 (by decide) (by simp [Value.category]) d_L_law_418 rfl rfl ?_
      refine ML.aload_n (i := 2) rfl rfl d_L_law_421 rfl ?_
      refine ML.aload_n (i := 0) rfl rfl d_L_law_422 rfl ?_
      refine ML.iload rfl d_L_law_423 rfl ?_
      refine ML.iconst ic_1 d_L_law_425 rfl ?_
      refine ML.iadd d_L_law_426 rfl ?_
      obtain ⟨k99, e100, hf⟩ := mm_bind hf
      refine ML.sld e100 d_L_law_427 rfl ?_
      refine ML.aload_n (i := 0) rfl rfl d_L_law_428 rfl ?_
      refine ML.iload rfl d_L_law_429 rfl ?_
      refine ML.iconst ic_2 d_L_law_431 rfl ?_
      refine ML.iadd d_L_law_432 rfl ?_
      obtain ⟨k101, e102, hf⟩ := mm_bind hf
      refine ML.sld e102 d_L_law_433 rfl ?_
      obtain ⟨v104, e103, hf⟩ := mm_bind hf
      refine ML.callV1g (T_M_secret V l (V.2.2.2.2 k99) (V.2.2.2.2 k101) v98.2 _ e103) (fun _ _ q => q) cal_M_secret rfl tg_261 ct_9 ww_1819 ww_1818 ww_1817 (by decide) (by simp [Value.category]) d_L_law_434 rfl rfl ?_
      obtain ⟨m108, m109⟩ := mm_ifE hf
      refine ML.icmp_eq (tgt := 1223) d_L_law_437 rfl rfl (fun c107 => ?_) (fun c107 => ?_)
      · replace hf := m108 c107
        obtain ⟨y105, e106, hf⟩ := mm_letE hf
        refine ML.iinc (k0 := 4) (lv' := [(4, .int y105), (0, .ref 31), (1, .ref 32), (2, .ref 261), (3, .ref 316)]) (by rw [ic_7]; exact e106) rfl (Nat.le_of_ble_eq_true rfl) rfl d_L_law_1223 rfl ?_
        refine ML.goto (tgt := 23) d_L_law_1226 rfl ?_
        obtain rfl := Option.some.inj hf
        have h9 := mm_wxL hx
        have n3 : (y105 : Int32).toInt = (s.1).toInt + 7 := by rw [e106]; exact n1
        exact ML.sub [1, 2, 3, 4, 0] (by rfl) (h9 _ _ (by dsimp only; omega) (by dsimp only; omega) (by dsimp only; omega) (by dsimp only; omega))
      · replace hf := m109 c107
        refine ML.iconst ic_0 d_L_law_440 rfl ?_
        obtain rfl := Option.some.inj hf
        replace hf := mm_wxR hx
        exact absurd (Option.some.inj hf) (by decide)
    replace hf := m111 c112
    obtain ⟨m134, m135⟩ := mm_ifE hf
    by_cases c136 : ((V.2.2.2.2 k1) &&& 31) = 5
    · replace hf := m134 c136
      refine ML.tableIn (tgt := 442) 5 (by rw [c136]; decide +kernel) (by decide) d_L_law_40 rfl rfl ?_
      refine ML.aload_n (i := 1) rfl rfl d_L_law_442 rfl ?_
      refine ML.aload_n (i := 0) rfl rfl d_L_law_443 rfl ?_
      refine ML.iload rfl d_L_law_444 rfl ?_
      refine ML.iconst ic_1 d_L_law_446 rfl ?_
      refine ML.iadd d_L_law_447 rfl ?_
      obtain ⟨k113, e114, hf⟩ := mm_bind hf
      refine ML.sld e114 d_L_law_448 rfl ?_
      refine ML.aload_n (i := 0) rfl rfl d_L_law_449 rfl ?_
      refine ML.iload rfl d_L_law_450 rfl ?_
      refine ML.iconst ic_2 d_L_law_452 rfl ?_
      refine ML.iadd d_L_law_453 rfl ?_
      obtain ⟨k115, e116, hf⟩ := mm_bind hf
      refine ML.sld e116 d_L_law_454 rfl ?_
      refine ML.aload_n (i := 0) rfl rfl d_L_law_455 rfl ?_
      refine ML.iload rfl d_L_law_456 rfl ?_
      refine ML.iconst ic_3 d_L_law_458 rfl ?_
      refine ML.iadd d_L_law_459 rfl ?_
      obtain ⟨k117, e118, hf⟩ := mm_bind hf
      refine ML.sld e118 d_L_law_460 rfl ?_
      obtain ⟨v120, e119, hf⟩ := mm_bind hf
      refine ML.callV1g (T_X_aware V l (V.2.2.2.2 k113) (V.2.2.2.2 k115) (V.2.2.2.2 k117) s.2 _ e119) (fun _ _ q => q) cal_X_aware rfl tg_32 ct_8 ww_926 ww_925 ww_924 (by decide) (by simp [Value.category]) d_L_law_461 rfl rfl ?_
      refine ML.aload_n (i := 2) rfl rfl d_L_law_464 rfl ?_
      refine ML.aload_n (i := 0) rfl rfl d_L_law_465 rfl ?_
      refine ML.iload rfl d_L_law_466 rfl ?_
      refine ML.iconst ic_1 d_L_law_468 rfl ?_
      refine ML.iadd d_L_law_469 rfl ?_
      obtain ⟨k121, e122, hf⟩ := mm_bind hf
      refine ML.sld e122 d_L_law_470 rfl ?_
      refine ML.aload_n (i := 0) rfl rfl d_L_law_471 rfl ?_
      refine ML.iload rfl d_L_law_472 rfl ?_
      refine ML.iconst ic_2 d_L_law_474 rfl ?_
      refine ML.iadd d_L_law_475 rfl ?_
      obtain ⟨k123, e124, hf⟩ := mm_bind hf
      refine ML.sld e124 d_L_law_476 rfl ?_
      refine ML.aload_n (i := 0) rfl rfl d_L_law_477 rfl ?_
      refine ML.iload rfl d_L_law_478 rfl ?_
      refine ML.iconst ic_3 d_L_law_480 rfl ?_
      refine ML.iadd d_L_law_481 rfl ?_
      obtain ⟨k125, e126, hf⟩ := mm_bind hf
      refine ML.sld e126 d_L_law_482 rfl ?_
      obtain ⟨v128, e127, hf⟩ := mm_bind hf
      refine ML.callV1g (T_M_aware V l (V.2.2.2.2 k121) (V.2.2.2.2 k123) (V.2.2.2.2 k125) s.2 _ e127) (fun _ _ q => q) cal_M_aware rfl tg_261 ct_9 ww_1827 ww_1826 ww_1825 (by decide) (by simp [Value.category]) d_L_law_483 rfl rfl ?_
      obtain ⟨m132, m133⟩ := mm_ifE hf
      refine ML.icmp_eq (tgt := 1223) d_L_law_486 rfl rfl (fun c131 => ?_) (fun c131 => ?_)
      · replace hf := m132 c131
        obtain ⟨y129, e130, hf⟩ := mm_letE hf
        refine ML.iinc (k0 := 4) (lv' := [(4, .int y129), (0, .ref 31), (1, .ref 32), (2, .ref 261), (3, .ref 316)]) (by rw [ic_7]; exact e130) rfl (Nat.le_of_ble_eq_true rfl) rfl d_L_law_1223 rfl ?_
        refine ML.goto (tgt := 23) d_L_law_1226 rfl ?_
        obtain rfl := Option.some.inj hf
        have h9 := mm_wxL hx
        have n3 : (y129 : Int32).toInt = (s.1).toInt + 7 := by rw [e130]; exact n1
        exact ML.sub [1, 2, 3, 4, 0] (by rfl) (h9 _ _ (by dsimp only; omega) (by dsimp only; omega) (by dsimp only; omega) (by dsimp only; omega))
      · replace hf := m133 c131
        refine ML.iconst ic_0 d_L_law_489 rfl ?_
        obtain rfl := Option.some.inj hf
        replace hf := mm_wxR hx
        exact absurd (Option.some.inj hf) (by decide)
    replace hf := m135 c136
    obtain ⟨m154, m155⟩ := mm_ifE hf
    by_cases c156 : ((V.2.2.2.2 k1) &&& 31) = 6
    · replace hf := m154 c156
      refine ML.tableIn (tgt := 491) 6 (by rw [c156]; decide +kernel) (by decide) d_L_law_40 rfl rfl ?_
      refine ML.aload_n (i := 1) rfl rfl d_L_law_491 rfl ?_
      refine ML.aload_n (i := 0) rfl rfl d_L_law_492 rfl ?_
      refine ML.iload rfl d_L_law_493 rfl ?_
      refine ML.iconst ic_1 d_L_law_495 rfl ?_
      refine ML.iadd d_L_law_496 rfl ?_
      obtain ⟨k137, e138, hf⟩ := mm_bind hf
      refine ML.sld e138 d_L_law_497 rfl ?_
      refine ML.aload_n (i := 0) rfl rfl d_L_law_498 rfl ?_
      refine ML.iload rfl d_L_law_499 rfl ?_
      refine ML.iconst ic_2 d_L_law_501 rfl ?_
      refine ML.iadd d_L_law_502 rfl ?_
      obtain ⟨k139, e140, hf⟩ := mm_bind hf
      refine ML.sld e140 d_L_law_503 rfl ?_
      obtain ⟨v142, e141, hf⟩ := mm_bind hf
      refine ML.callV1g (T_X_ear V l (V.2.2.2.2 k137) (V.2.2.2.2 k139) s.2 _ e141) (fun _ _ q => q) cal_X_ear rfl tg_32 ct_8 ww_942 ww_941 ww_940 (by decide) (by simp [Value.category]) d_L_law_504 rfl rfl ?_
      refine ML.aload_n (i := 2) rfl rfl d_L_law_507 rfl ?_
      refine ML.aload_n (i := 0) rfl rfl d_L_law_508 rfl ?_
      refine ML.iload rfl d_L_law_509 rfl ?_
      refine ML.iconst ic_1 d_L_law_511 rfl ?_
      refine ML.iadd d_L_law_512 rfl ?_
      obtain ⟨k143, e144, hf⟩ := mm_bind hf
      refine ML.sld e144 d_L_law_513 rfl ?_
      refine ML.aload_n (i := 0) rfl rfl d_L_law_514 rfl ?_
      refine ML.iload rfl d_L_law_515 rfl ?_
      refine ML.iconst ic_2 d_L_law_517 rfl ?_
      refine ML.iadd d_L_law_518 rfl ?_
      obtain ⟨k145, e146, hf⟩ := mm_bind hf
      refine ML.sld e146 d_L_law_519 rfl ?_
      obtain ⟨v148, e147, hf⟩ := mm_bind hf
      refine ML.callV1g (T_M_ear V l (V.2.2.2.2 k143) (V.2.2.2.2 k145) s.2 _ e147) (fun _ _ q => q) cal_M_ear rfl tg_261 ct_9 ww_1835 ww_1834 ww_1833 (by decide) (by simp [Value.category]) d_L_law_520 rfl rfl ?_
      obtain ⟨m152, m153⟩ := mm_ifE hf
      refine ML.icmp_eq (tgt := 1223) d_L_law_523 rfl rfl (fun c151 => ?_) (fun c151 => ?_)
      · replace hf := m152 c151
        obtain ⟨y149, e150, hf⟩ := mm_letE hf
        refine ML.iinc (k0 := 4) (lv' := [(4, .int y149), (0, .ref 31), (1, .ref 32), (2, .ref 261), (3, .ref 316)]) (by rw [ic_7]; exact e150) rfl (Nat.le_of_ble_eq_true rfl) rfl d_L_law_1223 rfl ?_
        refine ML.goto (tgt := 23) d_L_law_1226 rfl ?_
        obtain rfl := Option.some.inj hf
        have h9 := mm_wxL hx
        have n3 : (y149 : Int32).toInt = (s.1).toInt + 7 := by rw [e150]; exact n1
        exact ML.sub [1, 2, 3, 4, 0] (by rfl) (h9 _ _ (by dsimp only; omega) (by dsimp only; omega) (by dsimp only; omega) (by dsimp only; omega))
      · replace hf := m153 c151
        refine ML.iconst ic_0 d_L_law_526 rfl ?_
        obtain rfl := Option.some.inj hf
        replace hf := mm_wxR hx
        exact absurd (Option.some.inj hf) (by decide)
    replace hf := m155 c156
    obtain ⟨m178, m179⟩ := mm_ifE hf
    by_cases c180 : ((V.2.2.2.2 k1) &&& 31) = 7
    · replace hf := m178 c180
      refine ML.tableIn (tgt := 528) 7 (by rw [c180]; decide +kernel) (by decide) d_L_law_40 rfl rfl ?_
      refine ML.aload_n (i := 1) rfl rfl d_L_law_528 rfl ?_
      refine ML.aload_n (i := 0) rfl rfl d_L_law_529 rfl ?_
      refine ML.iload rfl d_L_law_530 rfl ?_
      refine ML.iconst ic_1 d_L_law_532 rfl ?_
      refine ML.iadd d_L_law_533 rfl ?_
      obtain ⟨k157, e158, hf⟩ := mm_bind hf
      refine ML.sld e158 d_L_law_534 rfl ?_
      refine ML.aload_n (i := 0) rfl rfl d_L_law_535 rfl ?_
      refine ML.iload rfl d_L_law_536 rfl ?_
      refine ML.iconst ic_2 d_L_law_538 rfl ?_
      refine ML.iadd d_L_law_539 rfl ?_
      obtain ⟨k159, e160, hf⟩ := mm_bind hf
      refine ML.sld e160 d_L_law_540 rfl ?_
      refine ML.aload_n (i := 0) rfl rfl d_L_law_541 rfl ?_
      refine ML.iload rfl d_L_law_542 rfl ?_
      refine ML.iconst ic_3 d_L_law_544 rfl ?_
      refine ML.iadd d_L_law_545 rfl ?_
      obtain ⟨k161, e162, hf⟩ := mm_bind hf
      refine ML.sld e162 d_L_law_546 rfl ?_
      obtain ⟨v164, e163, hf⟩ := mm_bind hf
      refine ML.callV1g (T_X_tell V l (V.2.2.2.2 k157) (V.2.2.2.2 k159) (V.2.2.2.2 k161) s.2 _ e163) (fun _ _ q => q) cal_X_tell rfl tg_32 ct_8 ww_951 ww_950 ww_949 (by decide) (by simp [Value.category]) d_L_law_547 rfl rfl ?_
      refine ML.aload_n (i := 2) rfl rfl d_L_law_550 rfl ?_
      refine ML.aload_n (i := 0) rfl rfl d_L_law_551 rfl ?_
      refine ML.iload rfl d_L_law_552 rfl ?_
      refine ML.iconst ic_1 d_L_law_554 rfl ?_
      refine ML.iadd d_L_law_555 rfl ?_
      obtain ⟨k165, e166, hf⟩ := mm_bind hf
      refine ML.sld e166 d_L_law_556 rfl ?_
      refine ML.aload_n (i := 0) rfl rfl d_L_law_557 rfl ?_
      refine ML.iload rfl d_L_law_558 rfl ?_
      refine ML.iconst ic_2 d_L_law_560 rfl ?_
      refine ML.iadd d_L_law_561 rfl ?_
      obtain ⟨k167, e168, hf⟩ := mm_bind hf
      refine ML.sld e168 d_L_law_562 rfl ?_
      refine ML.aload_n (i := 0) rfl rfl d_L_law_563 rfl ?_
      refine ML.iload rfl d_L_law_564 rfl ?_
      refine ML.iconst ic_3 d_L_law_566 rfl ?_
      refine ML.iadd d_L_law_567 rfl ?_
      obtain ⟨k169, e170, hf⟩ := mm_bind hf
      refine ML.sld e170 d_L_law_568 rfl ?_
      obtain ⟨v172, e171, hf⟩ := mm_bind hf
      refine ML.callV1g (T_M_tell V l (V.2.2.2.2 k165) (V.2.2.2.2 k167) (V.2.2.2.2 k169) v164.2 _ e171) (fun _ _ q => q) cal_M_tell rfl tg_261 ct_9 ww_1844 ww_1843 ww_1842 (by decide) (by simp [Value.category]) d_L_law_569 rfl rfl ?_
      obtain ⟨m176, m177⟩ := mm_ifE hf
      refine ML.icmp_eq (tgt := 1223) d_L_law_572 rfl rfl (fun c175 => ?_) (fun c175 => ?_)
      · replace hf := m176 c175
        obtain ⟨y173, e174, hf⟩ := mm_letE hf
        refine ML.iinc (k0 := 4) (lv' := [(4, .int y173), (0, .ref 31), (1, .ref 32), (2, .ref 261), (3, .ref 316)]) (by rw [ic_7]; exact e174) rfl (Nat.le_of_ble_eq_true rfl) rfl d_L_law_1223 rfl ?_
        refine ML.goto (tgt := 23) d_L_law_1226 rfl ?_
        obtain rfl := Option.some.inj hf
        have h9 := mm_wxL hx
        have n3 : (y173 : Int32).toInt = (s.1).toInt + 7 := by rw [e174]; exact n1
        exact ML.sub [1, 2, 3, 4, 0] (by rfl) (h9 _ _ (by dsimp only; omega) (by dsimp only; omega) (by dsimp only; omega) (by dsimp only; omega))
      · replace hf := m177 c175
        refine ML.iconst ic_0 d_L_law_575 rfl ?_
        obtain rfl := Option.some.inj hf
        replace hf := mm_wxR hx
        exact absurd (Option.some.inj hf) (by decide)
    replace hf := m179 c180
    obtain ⟨m198, m199⟩ := mm_ifE hf
    by_cases c200 : ((V.2.2.2.2 k1) &&& 31) = 8
    · replace hf := m198 c200
      refine ML.tableIn (tgt := 577) 8 (by rw [c200]; decide +kernel) (by decide) d_L_law_40 rfl rfl ?_
      refine ML.aload_n (i := 1) rfl rfl d_L_law_577 rfl ?_
      refine ML.aload_n (i := 0) rfl rfl d_L_law_578 rfl ?_
      refine ML.iload rfl d_L_law_579 rfl ?_
      refine ML.iconst ic_1 d_L_law_581 rfl ?_
      refine ML.iadd d_L_law_582 rfl ?_
      obtain ⟨k181, e182, hf⟩ := mm_bind hf
      refine ML.sld e182 d_L_law_583 rfl ?_
      refine ML.aload_n (i := 0) rfl rfl d_L_law_584 rfl ?_
      refine ML.iload rfl d_L_law_585 rfl ?_
      refine ML.iconst ic_2 d_L_law_587 rfl ?_
      refine ML.iadd d_L_law_588 rfl ?_
      obtain ⟨k183, e184, hf⟩ := mm_bind hf
      refine ML.sld e184 d_L_law_589 rfl ?_
      obtain ⟨v186, e185, hf⟩ := mm_bind hf
      refine ML.callV1g (T_X_pay V l (V.2.2.2.2 k181) (V.2.2.2.2 k183) s.2 _ e185) (fun _ _ q => q) cal_X_pay rfl tg_32 ct_8 ww_978 ww_977 ww_976 (by decide) (by simp [Value.category]) d_L_law_590 rfl rfl ?_
      refine ML.aload_n (i := 2) rfl rfl d_L_law_593 rfl ?_
      refine ML.aload_n (i := 0) rfl rfl d_L_law_594 rfl ?_
      refine ML.iload rfl d_L_law_595 rfl ?_
      refine ML.iconst ic_1 d_L_law_597 rfl ?_
      refine ML.iadd d_L_law_598 rfl ?_
      obtain ⟨k187, e188, hf⟩ := mm_bind hf
      refine ML.sld e188 d_L_law_599 rfl ?_
      refine ML.aload_n (i := 0) rfl rfl d_L_law_600 rfl ?_
      refine ML.iload rfl d_L_law_601 rfl ?_
      refine ML.iconst ic_2 d_L_law_603 rfl ?_
      refine ML.iadd d_L_law_604 rfl ?_
      obtain ⟨k189, e190, hf⟩ := mm_bind hf
      refine ML.sld e190 d_L_law_605 rfl ?_
      obtain ⟨v192, e191, hf⟩ := mm_bind hf
      refine ML.callV1g (T_M_pay V l (V.2.2.2.2 k187) (V.2.2.2.2 k189) v186.2 _ e191) (fun _ _ q => q) cal_M_pay rfl tg_261 ct_9 ww_1867 ww_1866 ww_1865 (by decide) (by simp [Value.category]) d_L_law_606 rfl rfl ?_
      obtain ⟨m196, m197⟩ := mm_ifE hf
      refine ML.icmp_eq (tgt := 1223) d_L_law_609 rfl rfl (fun c195 => ?_) (fun c195 => ?_)
      · replace hf := m196 c195
        obtain ⟨y193, e194, hf⟩ := mm_letE hf
        refine ML.iinc (k0 := 4) (lv' := [(4, .int y193), (0, .ref 31), (1, .ref 32), (2, .ref 261), (3, .ref 316)]) (by rw [ic_7]; exact e194) rfl (Nat.le_of_ble_eq_true rfl) rfl d_L_law_1223 rfl ?_
        refine ML.goto (tgt := 23) d_L_law_1226 rfl ?_
        obtain rfl := Option.some.inj hf
        have h9 := mm_wxL hx
        have n3 : (y193 : Int32).toInt = (s.1).toInt + 7 := by rw [e194]; exact n1
        exact ML.sub [1, 2, 3, 4, 0] (by rfl) (h9 _ _ (by dsimp only; omega) (by dsimp only; omega) (by dsimp only; omega) (by dsimp only; omega))
      · replace hf := m197 c195
        refine ML.iconst ic_0 d_L_law_612 rfl ?_
        obtain rfl := Option.some.inj hf
        replace hf := mm_wxR hx
        exact absurd (Option.some.inj hf) (by decide)
    replace hf := m199 c200
    obtain ⟨m214, m215⟩ := mm_ifE hf
    by_cases c216 : ((V.2.2.2.2 k1) &&& 31) = 9
    · replace hf := m214 c216
      refine ML.tableIn (tgt := 614) 9 (by rw [c216]; decide +kernel) (by decide) d_L_law_40 rfl rfl ?_
      refine ML.aload_n (i := 1) rfl rfl d_L_law_614 rfl ?_
      refine ML.aload_n (i := 0) rfl rfl d_L_law_615 rfl ?_
      refine ML.iload rfl d_L_law_616 rfl ?_
      refine ML.iconst ic_1 d_L_law_618 rfl ?_
      refine ML.iadd d_L_law_619 rfl ?_
      obtain ⟨k201, e202, hf⟩ := mm_bind hf
      refine ML.sld e202 d_L_law_620 rfl ?_
      obtain ⟨v204, e203, hf⟩ := mm_bind hf
      refine ML.callV1g (T_X_rise V l (V.2.2.2.2 k201) s.2 _ e203) (fun _ _ q => q) cal_X_rise rfl tg_32 ct_8 ww_1003 ww_1002 ww_1001 (by decide) (by simp [Value.category]) d_L_law_621 rfl rfl ?_
      refine ML.aload_n (i := 2) rfl rfl d_L_law_624 rfl ?_
      refine ML.aload_n (i := 0) rfl rfl d_L_law_625 rfl ?_
      refine ML.iload rfl d_L_law_626 rfl ?_
      refine ML.iconst ic_1 d_L_law_628 rfl ?_
      refine ML.iadd d_L_law_629 rfl ?_
      obtain ⟨k205, e206, hf⟩ := mm_bind hf
      refine ML.sld e206 d_L_law_630 rfl ?_
      obtain ⟨v208, e207, hf⟩ := mm_bind hf
      refine ML.callV1g (T_M_rise V l (V.2.2.2.2 k205) v204.2 _ e207) (fun _ _ q => q) cal_M_rise rfl tg_261 ct_9 ww_1879 ww_1878 ww_1877 (by decide) (by simp [Value.category]) d_L_law_631 rfl rfl ?_
      obtain ⟨m212, m213⟩ := mm_ifE hf
      refine ML.icmp_eq (tgt := 1223) d_L_law_634 rfl rfl (fun c211 => ?_) (fun c211 => ?_)
      · replace hf := m212 c211
        obtain ⟨y209, e210, hf⟩ := mm_letE hf
        refine ML.iinc (k0 := 4) (lv' := [(4, .int y209), (0, .ref 31), (1, .ref 32), (2, .ref 261), (3, .ref 316)]) (by rw [ic_7]; exact e210) rfl (Nat.le_of_ble_eq_true rfl) rfl d_L_law_1223 rfl ?_
        refine ML.goto (tgt := 23) d_L_law_1226 rfl ?_
        obtain rfl := Option.some.inj hf
        have h9 := mm_wxL hx
        have n3 : (y209 : Int32).toInt = (s.1).toInt + 7 := by rw [e210]; exact n1
        exact ML.sub [1, 2, 3, 4, 0] (by rfl) (h9 _ _ (by dsimp only; omega) (by dsimp only; omega) (by dsimp only; omega) (by dsimp only; omega))
      · replace hf := m213 c211
        refine ML.iconst ic_0 d_L_law_637 rfl ?_
        obtain rfl := Option.some.inj hf
        replace hf := mm_wxR hx
        exact absurd (Option.some.inj hf) (by decide)
    replace hf := m215 c216
    obtain ⟨m226, m227⟩ := mm_ifE hf
    by_cases c228 : ((V.2.2.2.2 k1) &&& 31) = 10
    · replace hf := m226 c228
      refine ML.tableIn (tgt := 639) 10 (by rw [c228]; decide +kernel) (by decide) d_L_law_40 rfl rfl ?_
      refine ML.aload_n (i := 1) rfl rfl d_L_law_639 rfl ?_
      obtain ⟨v218, e217, hf⟩ := mm_bind hf
      refine ML.callV1g (T_X_quarter V l  s.2 _ e217) (fun _ _ q => q) cal_X_quarter rfl tg_32 ct_8 ww_1007 ww_1006 ww_1005 (by decide) (by simp [Value.category]) d_L_law_640 rfl rfl ?_
      refine ML.aload_n (i := 2) rfl rfl d_L_law_643 rfl ?_
      obtain ⟨v220, e219, hf⟩ := mm_bind hf
      refine ML.callV1g (T_M_quarter V l  v218.2 _ e219) (fun _ _ q => q) cal_M_quarter rfl tg_261 ct_9 ww_1883 ww_1882 ww_1881 (by decide) (by simp [Value.category]) d_L_law_644 rfl rfl ?_
      obtain ⟨m224, m225⟩ := mm_ifE hf
      refine ML.icmp_eq (tgt := 1223) d_L_law_647 rfl rfl (fun c223 => ?_) (fun c223 => ?_)
      · replace hf := m224 c223
        obtain ⟨y221, e222, hf⟩ := mm_letE hf
        refine ML.iinc (k0 := 4) (lv' := [(4, .int y221), (0, .ref 31), (1, .ref 32), (2, .ref 261), (3, .ref 316)]) (by rw [ic_7]; exact e222) rfl (Nat.le_of_ble_eq_true rfl) rfl d_L_law_1223 rfl ?_
        refine ML.goto (tgt := 23) d_L_law_1226 rfl ?_
        obtain rfl := Option.some.inj hf
        have h9 := mm_wxL hx
        have n3 : (y221 : Int32).toInt = (s.1).toInt + 7 := by rw [e222]; exact n1
        exact ML.sub [1, 2, 3, 4, 0] (by rfl) (h9 _ _ (by dsimp only; omega) (by dsimp only; omega) (by dsimp only; omega) (by dsimp only; omega))
      · replace hf := m225 c223
        refine ML.iconst ic_0 d_L_law_650 rfl ?_
        obtain rfl := Option.some.inj hf
        replace hf := mm_wxR hx
        exact absurd (Option.some.inj hf) (by decide)
    replace hf := m227 c228
    obtain ⟨m250, m251⟩ := mm_ifE hf
    by_cases c252 : ((V.2.2.2.2 k1) &&& 31) = 11
    · replace hf := m250 c252
      refine ML.tableIn (tgt := 652) 11 (by rw [c252]; decide +kernel) (by decide) d_L_law_40 rfl rfl ?_
      refine ML.aload_n (i := 1) rfl rfl d_L_law_652 rfl ?_
      refine ML.aload_n (i := 0) rfl rfl d_L_law_653 rfl ?_
      refine ML.iload rfl d_L_law_654 rfl ?_
      refine ML.iconst ic_1 d_L_law_656 rfl ?_
      refine ML.iadd d_L_law_657 rfl ?_
      obtain ⟨k229, e230, hf⟩ := mm_bind hf
      refine ML.sld e230 d_L_law_658 rfl ?_
      refine ML.aload_n (i := 0) rfl rfl d_L_law_659 rfl ?_
      refine ML.iload rfl d_L_law_660 rfl ?_
      refine ML.iconst ic_2 d_L_law_662 rfl ?_
      refine ML.iadd d_L_law_663 rfl ?_
      obtain ⟨k231, e232, hf⟩ := mm_bind hf
      refine ML.sld e232 d_L_law_664 rfl ?_
      refine ML.aload_n (i := 0) rfl rfl d_L_law_665 rfl ?_
      refine ML.iload rfl d_L_law_666 rfl ?_
      refine ML.iconst ic_3 d_L_law_668 rfl ?_
      refine ML.iadd d_L_law_669 rfl ?_
      obtain ⟨k233, e234, hf⟩ := mm_bind hf
      refine ML.sld e234 d_L_law_670 rfl ?_
      obtain ⟨v236, e235, hf⟩ := mm_bind hf
      refine ML.callV1g (T_X_lend V l (V.2.2.2.2 k229) (V.2.2.2.2 k231) (V.2.2.2.2 k233) s.2 _ e235) (fun _ _ q => q) cal_X_lend rfl tg_32 ct_8 ww_1015 ww_1014 ww_1013 (by decide) (by simp [Value.category]) d_L_law_671 rfl rfl ?_
      refine ML.aload_n (i := 2) rfl rfl d_L_law_674 rfl ?_
      refine ML.aload_n (i := 0) rfl rfl d_L_law_675 rfl ?_
      refine ML.iload rfl d_L_law_676 rfl ?_
      refine ML.iconst ic_1 d_L_law_678 rfl ?_
      refine ML.iadd d_L_law_679 rfl ?_
      obtain ⟨k237, e238, hf⟩ := mm_bind hf
      refine ML.sld e238 d_L_law_680 rfl ?_
      refine ML.aload_n (i := 0) rfl rfl d_L_law_681 rfl ?_
      refine ML.iload rfl d_L_law_682 rfl ?_
      refine ML.iconst ic_2 d_L_law_684 rfl ?_
      refine ML.iadd d_L_law_685 rfl ?_
      obtain ⟨k239, e240, hf⟩ := mm_bind hf
      refine ML.sld e240 d_L_law_686 rfl ?_
      refine ML.aload_n (i := 0) rfl rfl d_L_law_687 rfl ?_
      refine ML.iload rfl d_L_law_688 rfl ?_
      refine ML.iconst ic_3 d_L_law_690 rfl ?_
      refine ML.iadd d_L_law_691 rfl ?_
      obtain ⟨k241, e242, hf⟩ := mm_bind hf
      refine ML.sld e242 d_L_law_692 rfl ?_
      obtain ⟨v244, e243, hf⟩ := mm_bind hf
      refine ML.callV1g (T_M_lend V l (V.2.2.2.2 k237) (V.2.2.2.2 k239) (V.2.2.2.2 k241) v236.2 _ e243) (fun _ _ q => q) cal_M_lend rfl tg_261 ct_9 ww_1891 ww_1890 ww_1889 (by decide) (by simp [Value.category]) d_L_law_693 rfl rfl ?_
      obtain ⟨m248, m249⟩ := mm_ifE hf
      refine ML.icmp_eq (tgt := 1223) d_L_law_696 rfl rfl (fun c247 => ?_) (fun c247 => ?_)
      · replace hf := m248 c247
        obtain ⟨y245, e246, hf⟩ := mm_letE hf
        refine ML.iinc (k0 := 4) (lv' := [(4, .int y245), (0, .ref 31), (1, .ref 32), (2, .ref 261), (3, .ref 316)]) (by rw [ic_7]; exact e246) rfl (Nat.le_of_ble_eq_true rfl) rfl d_L_law_1223 rfl ?_
        refine ML.goto (tgt := 23) d_L_law_1226 rfl ?_
        obtain rfl := Option.some.inj hf
        have h9 := mm_wxL hx
        have n3 : (y245 : Int32).toInt = (s.1).toInt + 7 := by rw [e246]; exact n1
        exact ML.sub [1, 2, 3, 4, 0] (by rfl) (h9 _ _ (by dsimp only; omega) (by dsimp only; omega) (by dsimp only; omega) (by dsimp only; omega))
      · replace hf := m249 c247
        refine ML.iconst ic_0 d_L_law_699 rfl ?_
        obtain rfl := Option.some.inj hf
        replace hf := mm_wxR hx
        exact absurd (Option.some.inj hf) (by decide)
    replace hf := m251 c252
    obtain ⟨m262, m263⟩ := mm_ifE hf
    by_cases c264 : ((V.2.2.2.2 k1) &&& 31) = 12
    · replace hf := m262 c264
      refine ML.tableIn (tgt := 701) 12 (by rw [c264]; decide +kernel) (by decide) d_L_law_40 rfl rfl ?_
      refine ML.aload_n (i := 1) rfl rfl d_L_law_701 rfl ?_
      obtain ⟨v254, e253, hf⟩ := mm_bind hf
      refine ML.callV1g (T_X_undo V l  s.2 _ e253) (fun _ _ q => q) cal_X_undo rfl tg_32 ct_8 ww_1027 ww_1026 ww_1025 (by decide) (by simp [Value.category]) d_L_law_702 rfl rfl ?_
      refine ML.aload_n (i := 2) rfl rfl d_L_law_705 rfl ?_
      obtain ⟨v256, e255, hf⟩ := mm_bind hf
      refine ML.callV1g (T_M_undo V l  v254.2 _ e255) (fun _ _ q => q) cal_M_undo rfl tg_261 ct_9 ww_1895 ww_1894 ww_1893 (by decide) (by simp [Value.category]) d_L_law_706 rfl rfl ?_
      obtain ⟨m260, m261⟩ := mm_ifE hf
      refine ML.icmp_eq (tgt := 1223) d_L_law_709 rfl rfl (fun c259 => ?_) (fun c259 => ?_)
      · replace hf := m260 c259
        obtain ⟨y257, e258, hf⟩ := mm_letE hf
        refine ML.iinc (k0 := 4) (lv' := [(4, .int y257), (0, .ref 31), (1, .ref 32), (2, .ref 261), (3, .ref 316)]) (by rw [ic_7]; exact e258) rfl (Nat.le_of_ble_eq_true rfl) rfl d_L_law_1223 rfl ?_
        refine ML.goto (tgt := 23) d_L_law_1226 rfl ?_
        obtain rfl := Option.some.inj hf
        have h9 := mm_wxL hx
        have n3 : (y257 : Int32).toInt = (s.1).toInt + 7 := by rw [e258]; exact n1
        exact ML.sub [1, 2, 3, 4, 0] (by rfl) (h9 _ _ (by dsimp only; omega) (by dsimp only; omega) (by dsimp only; omega) (by dsimp only; omega))
      · replace hf := m261 c259
        refine ML.iconst ic_0 d_L_law_712 rfl ?_
        obtain rfl := Option.some.inj hf
        replace hf := mm_wxR hx
        exact absurd (Option.some.inj hf) (by decide)
    replace hf := m263 c264
    obtain ⟨m278, m279⟩ := mm_ifE hf
    by_cases c280 : ((V.2.2.2.2 k1) &&& 31) = 13
    · replace hf := m278 c280
      refine ML.tableIn (tgt := 714) 13 (by rw [c280]; decide +kernel) (by decide) d_L_law_40 rfl rfl ?_
      refine ML.aload_n (i := 1) rfl rfl d_L_law_714 rfl ?_
      refine ML.aload_n (i := 0) rfl rfl d_L_law_715 rfl ?_
      refine ML.iload rfl d_L_law_716 rfl ?_
      refine ML.iconst ic_1 d_L_law_718 rfl ?_
      refine ML.iadd d_L_law_719 rfl ?_
      obtain ⟨k265, e266, hf⟩ := mm_bind hf
      refine ML.sld e266 d_L_law_720 rfl ?_
      obtain ⟨v268, e267, hf⟩ := mm_bind hf
      refine ML.callV1g (T_X_judged V l (V.2.2.2.2 k265) s.2 _ e267) (fun _ _ q => q) cal_X_judged rfl tg_32 ct_8 ww_1034 ww_1033 ww_1032 (by decide) (by simp [Value.category]) d_L_law_721 rfl rfl ?_
      refine ML.aload_n (i := 2) rfl rfl d_L_law_724 rfl ?_
      refine ML.aload_n (i := 0) rfl rfl d_L_law_725 rfl ?_
      refine ML.iload rfl d_L_law_726 rfl ?_
      refine ML.iconst ic_1 d_L_law_728 rfl ?_
      refine ML.iadd d_L_law_729 rfl ?_
      obtain ⟨k269, e270, hf⟩ := mm_bind hf
      refine ML.sld e270 d_L_law_730 rfl ?_
      obtain ⟨v272, e271, hf⟩ := mm_bind hf
      refine ML.callV1g (T_M_judged V l (V.2.2.2.2 k269) v268.2 _ e271) (fun _ _ q => q) cal_M_judged rfl tg_261 ct_9 ww_1899 ww_1898 ww_1897 (by decide) (by simp [Value.category]) d_L_law_731 rfl rfl ?_
      obtain ⟨m276, m277⟩ := mm_ifE hf
      refine ML.icmp_eq (tgt := 1223) d_L_law_734 rfl rfl (fun c275 => ?_) (fun c275 => ?_)
      · replace hf := m276 c275
        obtain ⟨y273, e274, hf⟩ := mm_letE hf
        refine ML.iinc (k0 := 4) (lv' := [(4, .int y273), (0, .ref 31), (1, .ref 32), (2, .ref 261), (3, .ref 316)]) (by rw [ic_7]; exact e274) rfl (Nat.le_of_ble_eq_true rfl) rfl d_L_law_1223 rfl ?_
        refine ML.goto (tgt := 23) d_L_law_1226 rfl ?_
        obtain rfl := Option.some.inj hf
        have h9 := mm_wxL hx
        have n3 : (y273 : Int32).toInt = (s.1).toInt + 7 := by rw [e274]; exact n1
        exact ML.sub [1, 2, 3, 4, 0] (by rfl) (h9 _ _ (by dsimp only; omega) (by dsimp only; omega) (by dsimp only; omega) (by dsimp only; omega))
      · replace hf := m277 c275
        refine ML.iconst ic_0 d_L_law_737 rfl ?_
        obtain rfl := Option.some.inj hf
        replace hf := mm_wxR hx
        exact absurd (Option.some.inj hf) (by decide)
    replace hf := m279 c280
    obtain ⟨m294, m295⟩ := mm_ifE hf
    by_cases c296 : ((V.2.2.2.2 k1) &&& 31) = 14
    · replace hf := m294 c296
      refine ML.tableIn (tgt := 739) 14 (by rw [c296]; decide +kernel) (by decide) d_L_law_40 rfl rfl ?_
      refine ML.aload_n (i := 1) rfl rfl d_L_law_739 rfl ?_
      refine ML.aload_n (i := 0) rfl rfl d_L_law_740 rfl ?_
      refine ML.iload rfl d_L_law_741 rfl ?_
      refine ML.iconst ic_1 d_L_law_743 rfl ?_
      refine ML.iadd d_L_law_744 rfl ?_
      obtain ⟨k281, e282, hf⟩ := mm_bind hf
      refine ML.sld e282 d_L_law_745 rfl ?_
      obtain ⟨v284, e283, hf⟩ := mm_bind hf
      refine ML.callV1g (T_X_least V l (V.2.2.2.2 k281) s.2 _ e283) (fun _ _ q => q) cal_X_least rfl tg_32 ct_8 ww_1051 ww_1050 ww_1049 (by decide) (by simp [Value.category]) d_L_law_746 rfl rfl ?_
      refine ML.aload_n (i := 2) rfl rfl d_L_law_749 rfl ?_
      refine ML.aload_n (i := 0) rfl rfl d_L_law_750 rfl ?_
      refine ML.iload rfl d_L_law_751 rfl ?_
      refine ML.iconst ic_1 d_L_law_753 rfl ?_
      refine ML.iadd d_L_law_754 rfl ?_
      obtain ⟨k285, e286, hf⟩ := mm_bind hf
      refine ML.sld e286 d_L_law_755 rfl ?_
      obtain ⟨v288, e287, hf⟩ := mm_bind hf
      refine ML.callV1g (T_M_least V l (V.2.2.2.2 k285) v284.2 _ e287) (fun _ _ q => q) cal_M_least rfl tg_261 ct_9 ww_1915 ww_1914 ww_1913 (by decide) (by simp [Value.category]) d_L_law_756 rfl rfl ?_
      obtain ⟨m292, m293⟩ := mm_ifE hf
      refine ML.icmp_eq (tgt := 1223) d_L_law_759 rfl rfl (fun c291 => ?_) (fun c291 => ?_)
      · replace hf := m292 c291
        obtain ⟨y289, e290, hf⟩ := mm_letE hf
        refine ML.iinc (k0 := 4) (lv' := [(4, .int y289), (0, .ref 31), (1, .ref 32), (2, .ref 261), (3, .ref 316)]) (by rw [ic_7]; exact e290) rfl (Nat.le_of_ble_eq_true rfl) rfl d_L_law_1223 rfl ?_
        refine ML.goto (tgt := 23) d_L_law_1226 rfl ?_
        obtain rfl := Option.some.inj hf
        have h9 := mm_wxL hx
        have n3 : (y289 : Int32).toInt = (s.1).toInt + 7 := by rw [e290]; exact n1
        exact ML.sub [1, 2, 3, 4, 0] (by rfl) (h9 _ _ (by dsimp only; omega) (by dsimp only; omega) (by dsimp only; omega) (by dsimp only; omega))
      · replace hf := m293 c291
        refine ML.iconst ic_0 d_L_law_762 rfl ?_
        obtain rfl := Option.some.inj hf
        replace hf := mm_wxR hx
        exact absurd (Option.some.inj hf) (by decide)
    replace hf := m295 c296
    obtain ⟨m306, m307⟩ := mm_ifE hf
    by_cases c308 : ((V.2.2.2.2 k1) &&& 31) = 15
    · replace hf := m306 c308
      refine ML.tableIn (tgt := 764) 15 (by rw [c308]; decide +kernel) (by decide) d_L_law_40 rfl rfl ?_
      refine ML.aload_n (i := 1) rfl rfl d_L_law_764 rfl ?_
      obtain ⟨v298, e297, hf⟩ := mm_bind hf
      refine ML.callV1g (T_X_payers V l  s.2 _ e297) (fun _ _ q => q) cal_X_payers rfl tg_32 ct_8 ww_1070 ww_1069 ww_1068 (by decide) (by simp [Value.category]) d_L_law_765 rfl rfl ?_
      refine ML.aload_n (i := 2) rfl rfl d_L_law_768 rfl ?_
      obtain ⟨v300, e299, hf⟩ := mm_bind hf
      refine ML.callV1g (T_M_payers V l  v298.2 _ e299) (fun _ _ q => q) cal_M_payers rfl tg_261 ct_9 ww_1926 ww_1925 ww_1924 (by decide) (by simp [Value.category]) d_L_law_769 rfl rfl ?_
      obtain ⟨m304, m305⟩ := mm_ifE hf
      refine ML.icmp_eq (tgt := 1223) d_L_law_772 rfl rfl (fun c303 => ?_) (fun c303 => ?_)
      · replace hf := m304 c303
        obtain ⟨y301, e302, hf⟩ := mm_letE hf
        refine ML.iinc (k0 := 4) (lv' := [(4, .int y301), (0, .ref 31), (1, .ref 32), (2, .ref 261), (3, .ref 316)]) (by rw [ic_7]; exact e302) rfl (Nat.le_of_ble_eq_true rfl) rfl d_L_law_1223 rfl ?_
        refine ML.goto (tgt := 23) d_L_law_1226 rfl ?_
        obtain rfl := Option.some.inj hf
        have h9 := mm_wxL hx
        have n3 : (y301 : Int32).toInt = (s.1).toInt + 7 := by rw [e302]; exact n1
        exact ML.sub [1, 2, 3, 4, 0] (by rfl) (h9 _ _ (by dsimp only; omega) (by dsimp only; omega) (by dsimp only; omega) (by dsimp only; omega))
      · replace hf := m305 c303
        refine ML.iconst ic_0 d_L_law_775 rfl ?_
        obtain rfl := Option.some.inj hf
        replace hf := mm_wxR hx
        exact absurd (Option.some.inj hf) (by decide)
    replace hf := m307 c308
    obtain ⟨m344, m345⟩ := mm_ifE hf
    by_cases c346 : ((V.2.2.2.2 k1) &&& 31) = 16
    · replace hf := m344 c346
      refine ML.tableIn (tgt := 777) 16 (by rw [c346]; decide +kernel) (by decide) d_L_law_40 rfl rfl ?_
      refine ML.aload_n (i := 1) rfl rfl d_L_law_777 rfl ?_
      refine ML.aload_n (i := 0) rfl rfl d_L_law_778 rfl ?_
      refine ML.iload rfl d_L_law_779 rfl ?_
      refine ML.iconst ic_1 d_L_law_781 rfl ?_
      refine ML.iadd d_L_law_782 rfl ?_
      obtain ⟨k309, e310, hf⟩ := mm_bind hf
      refine ML.sld e310 d_L_law_783 rfl ?_
      refine ML.aload_n (i := 0) rfl rfl d_L_law_784 rfl ?_
      refine ML.iload rfl d_L_law_785 rfl ?_
      refine ML.iconst ic_2 d_L_law_787 rfl ?_
      refine ML.iadd d_L_law_788 rfl ?_
      obtain ⟨k311, e312, hf⟩ := mm_bind hf
      refine ML.sld e312 d_L_law_789 rfl ?_
      refine ML.aload_n (i := 0) rfl rfl d_L_law_790 rfl ?_
      refine ML.iload rfl d_L_law_791 rfl ?_
      refine ML.iconst ic_3 d_L_law_793 rfl ?_
      refine ML.iadd d_L_law_794 rfl ?_
      obtain ⟨k313, e314, hf⟩ := mm_bind hf
      refine ML.sld e314 d_L_law_795 rfl ?_
      refine ML.aload_n (i := 0) rfl rfl d_L_law_796 rfl ?_
      refine ML.iload rfl d_L_law_797 rfl ?_
      refine ML.iconst ic_4 d_L_law_799 rfl ?_
      refine ML.iadd d_L_law_800 rfl ?_
      obtain ⟨k315, e316, hf⟩ := mm_bind hf
      refine ML.sld e316 d_L_law_801 rfl ?_
      refine ML.aload_n (i := 3) rfl rfl d_L_law_802 rfl ?_
      obtain ⟨v317, e318, hf⟩ := mm_bind hf
      refine ML.callSX (np := 6) (T_L_plot V l hl9 (V.2.2.2.2 k309) (V.2.2.2.2 k311) (V.2.2.2.2 k313) (V.2.2.2.2 k315) _ _ e318) (fun _ _ q => q) ww_1317 ww_109 ⟨by decide +kernel, by decide +kernel, by decide +kernel⟩ (by decide) rfl ww_1316 ww_1315 (by decide) (by simp [Value.category]) d_L_law_803 rfl (by omega) (by omega) rfl ?_
      refine ML.istore (lv' := [(5, .int v317.1), (0, .ref 31), (1, .ref 32), (2, .ref 261), (3, .ref 316), (4, .int s.1)]) rfl (Nat.le_of_ble_eq_true rfl) rfl d_L_law_806 rfl ?_
      refine ML.aload_n (i := 2) rfl rfl d_L_law_808 rfl ?_
      refine ML.aload_n (i := 0) rfl rfl d_L_law_809 rfl ?_
      refine ML.iload rfl d_L_law_810 rfl ?_
      refine ML.iconst ic_1 d_L_law_812 rfl ?_
      refine ML.iadd d_L_law_813 rfl ?_
      obtain ⟨k319, e320, hf⟩ := mm_bind hf
      refine ML.sld e320 d_L_law_814 rfl ?_
      refine ML.aload_n (i := 0) rfl rfl d_L_law_815 rfl ?_
      refine ML.iload rfl d_L_law_816 rfl ?_
      refine ML.iconst ic_2 d_L_law_818 rfl ?_
      refine ML.iadd d_L_law_819 rfl ?_
      obtain ⟨k321, e322, hf⟩ := mm_bind hf
      refine ML.sld e322 d_L_law_820 rfl ?_
      refine ML.aload_n (i := 0) rfl rfl d_L_law_821 rfl ?_
      refine ML.iload rfl d_L_law_822 rfl ?_
      refine ML.iconst ic_3 d_L_law_824 rfl ?_
      refine ML.iadd d_L_law_825 rfl ?_
      obtain ⟨k323, e324, hf⟩ := mm_bind hf
      refine ML.sld e324 d_L_law_826 rfl ?_
      refine ML.aload_n (i := 0) rfl rfl d_L_law_827 rfl ?_
      refine ML.iload rfl d_L_law_828 rfl ?_
      refine ML.iconst ic_4 d_L_law_830 rfl ?_
      refine ML.iadd d_L_law_831 rfl ?_
      obtain ⟨k325, e326, hf⟩ := mm_bind hf
      refine ML.sld e326 d_L_law_832 rfl ?_
      obtain ⟨v328, e327, hf⟩ := mm_bind hf
      refine ML.callV1g (T_M_plot V l (V.2.2.2.2 k319) (V.2.2.2.2 k321) (V.2.2.2.2 k323) (V.2.2.2.2 k325) v317.2 _ e327) (fun _ _ q => q) cal_M_plot rfl tg_261 ct_9 ww_1934 ww_1933 ww_1932 (by decide) (by simp [Value.category]) d_L_law_833 rfl rfl ?_
      refine ML.istore (lv' := [(6, .int v328.1), (5, .int v317.1), (0, .ref 31), (1, .ref 32), (2, .ref 261), (3, .ref 316), (4, .int s.1)]) rfl (Nat.le_of_ble_eq_true rfl) rfl d_L_law_836 rfl ?_
      refine ML.aload_n (i := 2) rfl rfl d_L_law_838 rfl ?_
      obtain ⟨v330, e329, hf⟩ := mm_bind hf
      refine ML.callV1g (T_M_thrown V l  v328.2 _ e329) (fun _ _ q => q) cal_M_thrown rfl tg_261 ct_9 ww_1572 ww_1571 ww_1570 (by decide) (by simp [Value.category]) d_L_law_839 rfl rfl ?_
      refine ML.iload rfl d_L_law_842 rfl ?_
      obtain ⟨m342, m343⟩ := mm_ifE hf
      refine ML.icmp_eq (tgt := 849) d_L_law_844 rfl rfl (fun c341 => ?_) (fun c341 => ?_)
      · replace hf := m342 c341
        refine ML.iload rfl d_L_law_849 rfl ?_
        obtain ⟨m339, m340⟩ := mm_ifE hf
        refine ML.if_ne (tgt := 866) d_L_law_851 rfl rfl (fun c338 => ?_) (fun c338 => ?_)
        · replace hf := m340 c338
          refine ML.goto (tgt := 1223) d_L_law_866 rfl ?_
          obtain ⟨y331, e332, hf⟩ := mm_letE hf
          refine ML.iinc (k0 := 6) (lv' := [(4, .int y331), (6, .int v328.1), (5, .int v317.1), (0, .ref 31), (1, .ref 32), (2, .ref 261), (3, .ref 316)]) (by rw [ic_7]; exact e332) rfl (Nat.le_of_ble_eq_true rfl) rfl d_L_law_1223 rfl ?_
          refine ML.goto (tgt := 23) d_L_law_1226 rfl ?_
          obtain rfl := Option.some.inj hf
          have h9 := mm_wxL hx
          have n3 : (y331 : Int32).toInt = (s.1).toInt + 7 := by rw [e332]; exact n1
          exact ML.sub [3, 4, 5, 6, 0] (by rfl) (h9 _ _ (by dsimp only; omega) (by dsimp only; omega) (by dsimp only; omega) (by dsimp only; omega))
        · replace hf := m339 c338
          refine ML.aload_n (i := 3) rfl rfl d_L_law_854 rfl ?_
          refine ML.iconst ic_0 d_L_law_855 rfl ?_
          refine ML.gL ix_0_1 al_316 d_L_law_856 rfl ?_
          refine ML.iload rfl d_L_law_857 rfl ?_
          refine ML.i2l d_L_law_859 rfl ?_
          refine ML.lcmp d_L_law_860 rfl ?_
          obtain ⟨m336, m337⟩ := mm_ifE hf
          refine ML.if_eq (tgt := 866) d_L_law_861 rfl rfl (fun c335 => ?_) (fun c335 => ?_)
          · replace hf := m336 c335
            refine ML.goto (tgt := 1223) d_L_law_866 rfl ?_
            obtain ⟨y333, e334, hf⟩ := mm_letE hf
            refine ML.iinc (k0 := 6) (lv' := [(4, .int y333), (6, .int v328.1), (5, .int v317.1), (0, .ref 31), (1, .ref 32), (2, .ref 261), (3, .ref 316)]) (by rw [ic_7]; exact e334) rfl (Nat.le_of_ble_eq_true rfl) rfl d_L_law_1223 rfl ?_
            refine ML.goto (tgt := 23) d_L_law_1226 rfl ?_
            obtain rfl := Option.some.inj hf
            have h9 := mm_wxL hx
            have n3 : (y333 : Int32).toInt = (s.1).toInt + 7 := by rw [e334]; exact n1
            exact ML.sub [3, 4, 5, 6, 0] (by rfl) (h9 _ _ (by dsimp only; omega) (by dsimp only; omega) (by dsimp only; omega) (by dsimp only; omega))
          · replace hf := m337 c335
            refine ML.iconst ic_0 d_L_law_864 rfl ?_
            obtain rfl := Option.some.inj hf
            replace hf := mm_wxR hx
            exact absurd (Option.some.inj hf) (by decide)
      · replace hf := m343 c341
        refine ML.iconst ic_0 d_L_law_847 rfl ?_
        obtain rfl := Option.some.inj hf
        replace hf := mm_wxR hx
        exact absurd (Option.some.inj hf) (by decide)
    replace hf := m345 c346
    obtain ⟨m376, m377⟩ := mm_ifE hf
    by_cases c378 : ((V.2.2.2.2 k1) &&& 31) = 17
    · replace hf := m376 c378
      refine ML.tableIn (tgt := 869) 17 (by rw [c378]; decide +kernel) (by decide) d_L_law_40 rfl rfl ?_
      refine ML.aload_n (i := 1) rfl rfl d_L_law_869 rfl ?_
      refine ML.aload_n (i := 0) rfl rfl d_L_law_870 rfl ?_
      refine ML.iload rfl d_L_law_871 rfl ?_
      refine ML.iconst ic_1 d_L_law_873 rfl ?_
      refine ML.iadd d_L_law_874 rfl ?_
      obtain ⟨k347, e348, hf⟩ := mm_bind hf
      refine ML.sld e348 d_L_law_875 rfl ?_
      refine ML.aload_n (i := 0) rfl rfl d_L_law_876 rfl ?_
      refine ML.iload rfl d_L_law_877 rfl ?_
      refine ML.iconst ic_2 d_L_law_879 rfl ?_
      refine ML.iadd d_L_law_880 rfl ?_
      obtain ⟨k349, e350, hf⟩ := mm_bind hf
      refine ML.sld e350 d_L_law_881 rfl ?_
      obtain ⟨j351, e375, hf⟩ := mm_bind hf
      have K352 : ML V l Y_L_law 1000 601024 7293034 (fun _ => True) ck sk Z0 890 [(0, .ref 31), (1, .ref 32), (2, .ref 261), (3, .ref 316), (4, .int s.1)] [.int j351, .int (V.2.2.2.2 k347), .ref 32] s.2 := by
        obtain ⟨v357, e356, hf⟩ := mm_bind hf
        refine ML.callV1g (T_X_see V l (V.2.2.2.2 k347) j351 s.2 _ e356) (fun _ _ q => q) cal_X_see rfl tg_32 ct_8 ww_1084 ww_1083 ww_1082 (by decide) (by simp [Value.category]) d_L_law_890 rfl rfl ?_
        refine ML.aload_n (i := 2) rfl rfl d_L_law_893 rfl ?_
        refine ML.aload_n (i := 0) rfl rfl d_L_law_894 rfl ?_
        refine ML.iload rfl d_L_law_895 rfl ?_
        refine ML.iconst ic_1 d_L_law_897 rfl ?_
        refine ML.iadd d_L_law_898 rfl ?_
        obtain ⟨k358, e359, hf⟩ := mm_bind hf
        refine ML.sld e359 d_L_law_899 rfl ?_
        refine ML.aload_n (i := 0) rfl rfl d_L_law_900 rfl ?_
        refine ML.iload rfl d_L_law_901 rfl ?_
        refine ML.iconst ic_2 d_L_law_903 rfl ?_
        refine ML.iadd d_L_law_904 rfl ?_
        obtain ⟨k360, e361, hf⟩ := mm_bind hf
        refine ML.sld e361 d_L_law_905 rfl ?_
        obtain ⟨j362, e374, hf⟩ := mm_bind hf
        have K363 : ML V l Y_L_law 1000 601024 7293034 (fun _ => True) ck sk Z0 914 [(0, .ref 31), (1, .ref 32), (2, .ref 261), (3, .ref 316), (4, .int s.1)] [.int j362, .int (V.2.2.2.2 k358), .ref 261, .int v357.1] v357.2 := by
          obtain ⟨v368, e367, hf⟩ := mm_bind hf
          refine ML.callV1g (T_M_see V l (V.2.2.2.2 k358) j362 v357.2 _ e367) (fun _ _ q => q) cal_M_see rfl tg_261 ct_9 ww_1942 ww_1941 ww_1940 (by decide) (by simp [Value.category]) d_L_law_914 rfl rfl ?_
          obtain ⟨m372, m373⟩ := mm_ifE hf
          refine ML.icmp_eq (tgt := 1223) d_L_law_917 rfl rfl (fun c371 => ?_) (fun c371 => ?_)
          · replace hf := m372 c371
            obtain ⟨y369, e370, hf⟩ := mm_letE hf
            refine ML.iinc (k0 := 4) (lv' := [(4, .int y369), (0, .ref 31), (1, .ref 32), (2, .ref 261), (3, .ref 316)]) (by rw [ic_7]; exact e370) rfl (Nat.le_of_ble_eq_true rfl) rfl d_L_law_1223 rfl ?_
            refine ML.goto (tgt := 23) d_L_law_1226 rfl ?_
            obtain rfl := Option.some.inj hf
            have h9 := mm_wxL hx
            have n3 : (y369 : Int32).toInt = (s.1).toInt + 7 := by rw [e370]; exact n1
            exact ML.sub [1, 2, 3, 4, 0] (by rfl) (h9 _ _ (by dsimp only; omega) (by dsimp only; omega) (by dsimp only; omega) (by dsimp only; omega))
          · replace hf := m373 c371
            refine ML.iconst ic_0 d_L_law_920 rfl ?_
            obtain rfl := Option.some.inj hf
            replace hf := mm_wxR hx
            exact absurd (Option.some.inj hf) (by decide)
        clear hf
        have hf := e374
        clear e374
        obtain ⟨m365, m366⟩ := mm_ifE hf
        refine ML.if_eq (tgt := 913) d_L_law_906 rfl rfl (fun c364 => ?_) (fun c364 => ?_)
        · replace hf := m365 c364
          refine ML.iconst ic_0 d_L_law_913 rfl ?_
          obtain rfl := Option.some.inj hf
          exact ML.sub [0, 1, 2, 3, 4] (by rfl) K363
        · replace hf := m366 c364
          refine ML.iconst ic_1 d_L_law_909 rfl ?_
          refine ML.goto (tgt := 914) d_L_law_910 rfl ?_
          obtain rfl := Option.some.inj hf
          exact ML.sub [0, 1, 2, 3, 4] (by rfl) K363
      clear hf
      have hf := e375
      clear e375
      obtain ⟨m354, m355⟩ := mm_ifE hf
      refine ML.if_eq (tgt := 889) d_L_law_882 rfl rfl (fun c353 => ?_) (fun c353 => ?_)
      · replace hf := m354 c353
        refine ML.iconst ic_0 d_L_law_889 rfl ?_
        obtain rfl := Option.some.inj hf
        exact ML.sub [0, 1, 2, 3, 4] (by rfl) K352
      · replace hf := m355 c353
        refine ML.iconst ic_1 d_L_law_885 rfl ?_
        refine ML.goto (tgt := 890) d_L_law_886 rfl ?_
        obtain rfl := Option.some.inj hf
        exact ML.sub [0, 1, 2, 3, 4] (by rfl) K352
    replace hf := m377 c378
    obtain ⟨m392, m393⟩ := mm_ifE hf
    by_cases c394 : ((V.2.2.2.2 k1) &&& 31) = 18
    · replace hf := m392 c394
      refine ML.tableIn (tgt := 922) 18 (by rw [c394]; decide +kernel) (by decide) d_L_law_40 rfl rfl ?_
      refine ML.aload_n (i := 1) rfl rfl d_L_law_922 rfl ?_
      refine ML.aload_n (i := 0) rfl rfl d_L_law_923 rfl ?_
      refine ML.iload rfl d_L_law_924 rfl ?_
      refine ML.iconst ic_1 d_L_law_926 rfl ?_
      refine ML.iadd d_L_law_927 rfl ?_
      obtain ⟨k379, e380, hf⟩ := mm_bind hf
      refine ML.sld e380 d_L_law_928 rfl ?_
      obtain ⟨v382, e381, hf⟩ := mm_bind hf
      refine ML.callV1g (T_X_leaks V l (V.2.2.2.2 k379) s.2 _ e381) (fun _ _ q => q) cal_X_leaks rfl tg_32 ct_8 ww_1092 ww_1091 ww_1090 (by decide) (by simp [Value.category]) d_L_law_929 rfl rfl ?_
      refine ML.aload_n (i := 2) rfl rfl d_L_law_932 rfl ?_
      refine ML.aload_n (i := 0) rfl rfl d_L_law_933 rfl ?_
      refine ML.iload rfl d_L_law_934 rfl ?_
      refine ML.iconst ic_1 d_L_law_936 rfl ?_
      refine ML.iadd d_L_law_937 rfl ?_
      obtain ⟨k383, e384, hf⟩ := mm_bind hf
      refine ML.sld e384 d_L_law_938 rfl ?_
      obtain ⟨v386, e385, hf⟩ := mm_bind hf
      refine ML.callV1g (T_M_leaks V l (V.2.2.2.2 k383) v382.2 _ e385) (fun _ _ q => q) cal_M_leaks rfl tg_261 ct_9 ww_1946 ww_1945 ww_1944 (by decide) (by simp [Value.category]) d_L_law_939 rfl rfl ?_
      obtain ⟨m390, m391⟩ := mm_ifE hf
      refine ML.icmp_eq (tgt := 1223) d_L_law_942 rfl rfl (fun c389 => ?_) (fun c389 => ?_)
      · replace hf := m390 c389
        obtain ⟨y387, e388, hf⟩ := mm_letE hf
        refine ML.iinc (k0 := 4) (lv' := [(4, .int y387), (0, .ref 31), (1, .ref 32), (2, .ref 261), (3, .ref 316)]) (by rw [ic_7]; exact e388) rfl (Nat.le_of_ble_eq_true rfl) rfl d_L_law_1223 rfl ?_
        refine ML.goto (tgt := 23) d_L_law_1226 rfl ?_
        obtain rfl := Option.some.inj hf
        have h9 := mm_wxL hx
        have n3 : (y387 : Int32).toInt = (s.1).toInt + 7 := by rw [e388]; exact n1
        exact ML.sub [1, 2, 3, 4, 0] (by rfl) (h9 _ _ (by dsimp only; omega) (by dsimp only; omega) (by dsimp only; omega) (by dsimp only; omega))
      · replace hf := m391 c389
        refine ML.iconst ic_0 d_L_law_945 rfl ?_
        obtain rfl := Option.some.inj hf
        replace hf := mm_wxR hx
        exact absurd (Option.some.inj hf) (by decide)
    replace hf := m393 c394
    obtain ⟨m408, m409⟩ := mm_ifE hf
    by_cases c410 : ((V.2.2.2.2 k1) &&& 31) = 19
    · replace hf := m408 c410
      refine ML.tableIn (tgt := 947) 19 (by rw [c410]; decide +kernel) (by decide) d_L_law_40 rfl rfl ?_
      refine ML.aload_n (i := 1) rfl rfl d_L_law_947 rfl ?_
      refine ML.aload_n (i := 0) rfl rfl d_L_law_948 rfl ?_
      refine ML.iload rfl d_L_law_949 rfl ?_
      refine ML.iconst ic_1 d_L_law_951 rfl ?_
      refine ML.iadd d_L_law_952 rfl ?_
      obtain ⟨k395, e396, hf⟩ := mm_bind hf
      refine ML.sld e396 d_L_law_953 rfl ?_
      obtain ⟨v398, e397, hf⟩ := mm_bind hf
      refine ML.callV1g (T_X_lies V l (V.2.2.2.2 k395) s.2 _ e397) (fun _ _ q => q) cal_X_lies rfl tg_32 ct_8 ww_1104 ww_1103 ww_1102 (by decide) (by simp [Value.category]) d_L_law_954 rfl rfl ?_
      refine ML.aload_n (i := 2) rfl rfl d_L_law_957 rfl ?_
      refine ML.aload_n (i := 0) rfl rfl d_L_law_958 rfl ?_
      refine ML.iload rfl d_L_law_959 rfl ?_
      refine ML.iconst ic_1 d_L_law_961 rfl ?_
      refine ML.iadd d_L_law_962 rfl ?_
      obtain ⟨k399, e400, hf⟩ := mm_bind hf
      refine ML.sld e400 d_L_law_963 rfl ?_
      obtain ⟨v402, e401, hf⟩ := mm_bind hf
      refine ML.callV1g (T_M_lies V l (V.2.2.2.2 k399) v398.2 _ e401) (fun _ _ q => q) cal_M_lies rfl tg_261 ct_9 ww_1954 ww_1953 ww_1952 (by decide) (by simp [Value.category]) d_L_law_964 rfl rfl ?_
      obtain ⟨m406, m407⟩ := mm_ifE hf
      refine ML.icmp_eq (tgt := 1223) d_L_law_967 rfl rfl (fun c405 => ?_) (fun c405 => ?_)
      · replace hf := m406 c405
        obtain ⟨y403, e404, hf⟩ := mm_letE hf
        refine ML.iinc (k0 := 4) (lv' := [(4, .int y403), (0, .ref 31), (1, .ref 32), (2, .ref 261), (3, .ref 316)]) (by rw [ic_7]; exact e404) rfl (Nat.le_of_ble_eq_true rfl) rfl d_L_law_1223 rfl ?_
        refine ML.goto (tgt := 23) d_L_law_1226 rfl ?_
        obtain rfl := Option.some.inj hf
        have h9 := mm_wxL hx
        have n3 : (y403 : Int32).toInt = (s.1).toInt + 7 := by rw [e404]; exact n1
        exact ML.sub [1, 2, 3, 4, 0] (by rfl) (h9 _ _ (by dsimp only; omega) (by dsimp only; omega) (by dsimp only; omega) (by dsimp only; omega))
      · replace hf := m407 c405
        refine ML.iconst ic_0 d_L_law_970 rfl ?_
        obtain rfl := Option.some.inj hf
        replace hf := mm_wxR hx
        exact absurd (Option.some.inj hf) (by decide)
    replace hf := m409 c410
    obtain ⟨m428, m429⟩ := mm_ifE hf
    by_cases c430 : ((V.2.2.2.2 k1) &&& 31) = 20
    · replace hf := m428 c430
      refine ML.tableIn (tgt := 972) 20 (by rw [c430]; decide +kernel) (by decide) d_L_law_40 rfl rfl ?_
      refine ML.aload_n (i := 1) rfl rfl d_L_law_972 rfl ?_
      refine ML.aload_n (i := 0) rfl rfl d_L_law_973 rfl ?_
      refine ML.iload rfl d_L_law_974 rfl ?_
      refine ML.iconst ic_1 d_L_law_976 rfl ?_
      refine ML.iadd d_L_law_977 rfl ?_
      obtain ⟨k411, e412, hf⟩ := mm_bind hf
      refine ML.sld e412 d_L_law_978 rfl ?_
      refine ML.aload_n (i := 0) rfl rfl d_L_law_979 rfl ?_
      refine ML.iload rfl d_L_law_980 rfl ?_
      refine ML.iconst ic_2 d_L_law_982 rfl ?_
      refine ML.iadd d_L_law_983 rfl ?_
      obtain ⟨k413, e414, hf⟩ := mm_bind hf
      refine ML.sld e414 d_L_law_984 rfl ?_
      obtain ⟨v416, e415, hf⟩ := mm_bind hf
      refine ML.callV1g (T_X_mean V l (V.2.2.2.2 k411) (V.2.2.2.2 k413) s.2 _ e415) (fun _ _ q => q) cal_X_mean rfl tg_32 ct_8 ww_1116 ww_1115 ww_1114 (by decide) (by simp [Value.category]) d_L_law_985 rfl rfl ?_
      refine ML.aload_n (i := 2) rfl rfl d_L_law_988 rfl ?_
      refine ML.aload_n (i := 0) rfl rfl d_L_law_989 rfl ?_
      refine ML.iload rfl d_L_law_990 rfl ?_
      refine ML.iconst ic_1 d_L_law_992 rfl ?_
      refine ML.iadd d_L_law_993 rfl ?_
      obtain ⟨k417, e418, hf⟩ := mm_bind hf
      refine ML.sld e418 d_L_law_994 rfl ?_
      refine ML.aload_n (i := 0) rfl rfl d_L_law_995 rfl ?_
      refine ML.iload rfl d_L_law_996 rfl ?_
      refine ML.iconst ic_2 d_L_law_998 rfl ?_
      refine ML.iadd d_L_law_999 rfl ?_
      obtain ⟨k419, e420, hf⟩ := mm_bind hf
      refine ML.sld e420 d_L_law_1000 rfl ?_
      obtain ⟨v422, e421, hf⟩ := mm_bind hf
      refine ML.callV1g (T_M_mean V l (V.2.2.2.2 k417) (V.2.2.2.2 k419) v416.2 _ e421) (fun _ _ q => q) cal_M_mean rfl tg_261 ct_9 ww_1962 ww_1961 ww_1960 (by decide) (by simp [Value.category]) d_L_law_1001 rfl rfl ?_
      obtain ⟨m426, m427⟩ := mm_ifE hf
      refine ML.icmp_eq (tgt := 1223) d_L_law_1004 rfl rfl (fun c425 => ?_) (fun c425 => ?_)
      · replace hf := m426 c425
        obtain ⟨y423, e424, hf⟩ := mm_letE hf
        refine ML.iinc (k0 := 4) (lv' := [(4, .int y423), (0, .ref 31), (1, .ref 32), (2, .ref 261), (3, .ref 316)]) (by rw [ic_7]; exact e424) rfl (Nat.le_of_ble_eq_true rfl) rfl d_L_law_1223 rfl ?_
        refine ML.goto (tgt := 23) d_L_law_1226 rfl ?_
        obtain rfl := Option.some.inj hf
        have h9 := mm_wxL hx
        have n3 : (y423 : Int32).toInt = (s.1).toInt + 7 := by rw [e424]; exact n1
        exact ML.sub [1, 2, 3, 4, 0] (by rfl) (h9 _ _ (by dsimp only; omega) (by dsimp only; omega) (by dsimp only; omega) (by dsimp only; omega))
      · replace hf := m427 c425
        refine ML.iconst ic_0 d_L_law_1007 rfl ?_
        obtain rfl := Option.some.inj hf
        replace hf := mm_wxR hx
        exact absurd (Option.some.inj hf) (by decide)
    replace hf := m429 c430
    obtain ⟨m448, m449⟩ := mm_ifE hf
    by_cases c450 : ((V.2.2.2.2 k1) &&& 31) = 21
    · replace hf := m448 c450
      refine ML.tableIn (tgt := 1009) 21 (by rw [c450]; decide +kernel) (by decide) d_L_law_40 rfl rfl ?_
      refine ML.aload_n (i := 1) rfl rfl d_L_law_1009 rfl ?_
      refine ML.aload_n (i := 0) rfl rfl d_L_law_1010 rfl ?_
      refine ML.iload rfl d_L_law_1011 rfl ?_
      refine ML.iconst ic_1 d_L_law_1013 rfl ?_
      refine ML.iadd d_L_law_1014 rfl ?_
      obtain ⟨k431, e432, hf⟩ := mm_bind hf
      refine ML.sld e432 d_L_law_1015 rfl ?_
      refine ML.aload_n (i := 0) rfl rfl d_L_law_1016 rfl ?_
      refine ML.iload rfl d_L_law_1017 rfl ?_
      refine ML.iconst ic_2 d_L_law_1019 rfl ?_
      refine ML.iadd d_L_law_1020 rfl ?_
      obtain ⟨k433, e434, hf⟩ := mm_bind hf
      refine ML.sld e434 d_L_law_1021 rfl ?_
      obtain ⟨v436, e435, hf⟩ := mm_bind hf
      refine ML.callV1g (T_X_holds V l (V.2.2.2.2 k431) (V.2.2.2.2 k433) s.2 _ e435) (fun _ _ q => q) cal_X_holds rfl tg_32 ct_8 ww_1163 ww_1162 ww_1161 (by decide) (by simp [Value.category]) d_L_law_1022 rfl rfl ?_
      refine ML.aload_n (i := 2) rfl rfl d_L_law_1025 rfl ?_
      refine ML.aload_n (i := 0) rfl rfl d_L_law_1026 rfl ?_
      refine ML.iload rfl d_L_law_1027 rfl ?_
      refine ML.iconst ic_1 d_L_law_1029 rfl ?_
      refine ML.iadd d_L_law_1030 rfl ?_
      obtain ⟨k437, e438, hf⟩ := mm_bind hf
      refine ML.sld e438 d_L_law_1031 rfl ?_
      refine ML.aload_n (i := 0) rfl rfl d_L_law_1032 rfl ?_
      refine ML.iload rfl d_L_law_1033 rfl ?_
      refine ML.iconst ic_2 d_L_law_1035 rfl ?_
      refine ML.iadd d_L_law_1036 rfl ?_
      obtain ⟨k439, e440, hf⟩ := mm_bind hf
      refine ML.sld e440 d_L_law_1037 rfl ?_
      obtain ⟨v442, e441, hf⟩ := mm_bind hf
      refine ML.callV1g (T_M_holds V l (V.2.2.2.2 k437) (V.2.2.2.2 k439) v436.2 _ e441) (fun _ _ q => q) cal_M_holds rfl tg_261 ct_9 ww_1981 ww_1980 ww_1979 (by decide) (by simp [Value.category]) d_L_law_1038 rfl rfl ?_
      obtain ⟨m446, m447⟩ := mm_ifE hf
      refine ML.icmp_eq (tgt := 1223) d_L_law_1041 rfl rfl (fun c445 => ?_) (fun c445 => ?_)
      · replace hf := m446 c445
        obtain ⟨y443, e444, hf⟩ := mm_letE hf
        refine ML.iinc (k0 := 4) (lv' := [(4, .int y443), (0, .ref 31), (1, .ref 32), (2, .ref 261), (3, .ref 316)]) (by rw [ic_7]; exact e444) rfl (Nat.le_of_ble_eq_true rfl) rfl d_L_law_1223 rfl ?_
        refine ML.goto (tgt := 23) d_L_law_1226 rfl ?_
        obtain rfl := Option.some.inj hf
        have h9 := mm_wxL hx
        have n3 : (y443 : Int32).toInt = (s.1).toInt + 7 := by rw [e444]; exact n1
        exact ML.sub [1, 2, 3, 4, 0] (by rfl) (h9 _ _ (by dsimp only; omega) (by dsimp only; omega) (by dsimp only; omega) (by dsimp only; omega))
      · replace hf := m447 c445
        refine ML.iconst ic_0 d_L_law_1044 rfl ?_
        obtain rfl := Option.some.inj hf
        replace hf := mm_wxR hx
        exact absurd (Option.some.inj hf) (by decide)
    replace hf := m449 c450
    obtain ⟨m460, m461⟩ := mm_ifE hf
    by_cases c462 : ((V.2.2.2.2 k1) &&& 31) = 22
    · replace hf := m460 c462
      refine ML.tableIn (tgt := 1046) 22 (by rw [c462]; decide +kernel) (by decide) d_L_law_40 rfl rfl ?_
      refine ML.aload_n (i := 1) rfl rfl d_L_law_1046 rfl ?_
      obtain ⟨v452, e451, hf⟩ := mm_bind hf
      refine ML.callV1g (T_X_settle V l  s.2 _ e451) (fun _ _ q => q) cal_X_settle rfl tg_32 ct_8 ww_1171 ww_1170 ww_1169 (by decide) (by simp [Value.category]) d_L_law_1047 rfl rfl ?_
      refine ML.aload_n (i := 2) rfl rfl d_L_law_1050 rfl ?_
      obtain ⟨v454, e453, hf⟩ := mm_bind hf
      refine ML.callV1g (T_M_settle V l  v452.2 _ e453) (fun _ _ q => q) cal_M_settle rfl tg_261 ct_9 ww_1985 ww_1984 ww_1983 (by decide) (by simp [Value.category]) d_L_law_1051 rfl rfl ?_
      obtain ⟨m458, m459⟩ := mm_ifE hf
      refine ML.icmp_eq (tgt := 1223) d_L_law_1054 rfl rfl (fun c457 => ?_) (fun c457 => ?_)
      · replace hf := m458 c457
        obtain ⟨y455, e456, hf⟩ := mm_letE hf
        refine ML.iinc (k0 := 4) (lv' := [(4, .int y455), (0, .ref 31), (1, .ref 32), (2, .ref 261), (3, .ref 316)]) (by rw [ic_7]; exact e456) rfl (Nat.le_of_ble_eq_true rfl) rfl d_L_law_1223 rfl ?_
        refine ML.goto (tgt := 23) d_L_law_1226 rfl ?_
        obtain rfl := Option.some.inj hf
        have h9 := mm_wxL hx
        have n3 : (y455 : Int32).toInt = (s.1).toInt + 7 := by rw [e456]; exact n1
        exact ML.sub [1, 2, 3, 4, 0] (by rfl) (h9 _ _ (by dsimp only; omega) (by dsimp only; omega) (by dsimp only; omega) (by dsimp only; omega))
      · replace hf := m459 c457
        refine ML.iconst ic_0 d_L_law_1057 rfl ?_
        obtain rfl := Option.some.inj hf
        replace hf := mm_wxR hx
        exact absurd (Option.some.inj hf) (by decide)
    replace hf := m461 c462
    obtain ⟨m480, m481⟩ := mm_ifE hf
    by_cases c482 : ((V.2.2.2.2 k1) &&& 31) = 23
    · replace hf := m480 c482
      refine ML.tableIn (tgt := 1059) 23 (by rw [c482]; decide +kernel) (by decide) d_L_law_40 rfl rfl ?_
      refine ML.aload_n (i := 1) rfl rfl d_L_law_1059 rfl ?_
      refine ML.aload_n (i := 0) rfl rfl d_L_law_1060 rfl ?_
      refine ML.iload rfl d_L_law_1061 rfl ?_
      refine ML.iconst ic_1 d_L_law_1063 rfl ?_
      refine ML.iadd d_L_law_1064 rfl ?_
      obtain ⟨k463, e464, hf⟩ := mm_bind hf
      refine ML.sld e464 d_L_law_1065 rfl ?_
      refine ML.aload_n (i := 0) rfl rfl d_L_law_1066 rfl ?_
      refine ML.iload rfl d_L_law_1067 rfl ?_
      refine ML.iconst ic_2 d_L_law_1069 rfl ?_
      refine ML.iadd d_L_law_1070 rfl ?_
      obtain ⟨k465, e466, hf⟩ := mm_bind hf
      refine ML.sld e466 d_L_law_1071 rfl ?_
      obtain ⟨v468, e467, hf⟩ := mm_bind hf
      refine ML.callV1g (T_X_rests V l (V.2.2.2.2 k463) (V.2.2.2.2 k465) s.2 _ e467) (fun _ _ q => q) cal_X_rests rfl tg_32 ct_8 ww_1180 ww_1179 ww_1178 (by decide) (by simp [Value.category]) d_L_law_1072 rfl rfl ?_
      refine ML.aload_n (i := 2) rfl rfl d_L_law_1075 rfl ?_
      refine ML.aload_n (i := 0) rfl rfl d_L_law_1076 rfl ?_
      refine ML.iload rfl d_L_law_1077 rfl ?_
      refine ML.iconst ic_1 d_L_law_1079 rfl ?_
      refine ML.iadd d_L_law_1080 rfl ?_
      obtain ⟨k469, e470, hf⟩ := mm_bind hf
      refine ML.sld e470 d_L_law_1081 rfl ?_
      refine ML.aload_n (i := 0) rfl rfl d_L_law_1082 rfl ?_
      refine ML.iload rfl d_L_law_1083 rfl ?_
      refine ML.iconst ic_2 d_L_law_1085 rfl ?_
      refine ML.iadd d_L_law_1086 rfl ?_
      obtain ⟨k471, e472, hf⟩ := mm_bind hf
      refine ML.sld e472 d_L_law_1087 rfl ?_
      obtain ⟨v474, e473, hf⟩ := mm_bind hf
      refine ML.callV1g (T_M_rests V l (V.2.2.2.2 k469) (V.2.2.2.2 k471) v468.2 _ e473) (fun _ _ q => q) cal_M_rests rfl tg_261 ct_9 ww_1989 ww_1988 ww_1987 (by decide) (by simp [Value.category]) d_L_law_1088 rfl rfl ?_
      obtain ⟨m478, m479⟩ := mm_ifE hf
      refine ML.icmp_eq (tgt := 1223) d_L_law_1091 rfl rfl (fun c477 => ?_) (fun c477 => ?_)
      · replace hf := m478 c477
        obtain ⟨y475, e476, hf⟩ := mm_letE hf
        refine ML.iinc (k0 := 4) (lv' := [(4, .int y475), (0, .ref 31), (1, .ref 32), (2, .ref 261), (3, .ref 316)]) (by rw [ic_7]; exact e476) rfl (Nat.le_of_ble_eq_true rfl) rfl d_L_law_1223 rfl ?_
        refine ML.goto (tgt := 23) d_L_law_1226 rfl ?_
        obtain rfl := Option.some.inj hf
        have h9 := mm_wxL hx
        have n3 : (y475 : Int32).toInt = (s.1).toInt + 7 := by rw [e476]; exact n1
        exact ML.sub [1, 2, 3, 4, 0] (by rfl) (h9 _ _ (by dsimp only; omega) (by dsimp only; omega) (by dsimp only; omega) (by dsimp only; omega))
      · replace hf := m479 c477
        refine ML.iconst ic_0 d_L_law_1094 rfl ?_
        obtain rfl := Option.some.inj hf
        replace hf := mm_wxR hx
        exact absurd (Option.some.inj hf) (by decide)
    replace hf := m481 c482
    obtain ⟨m504, m505⟩ := mm_ifE hf
    by_cases c506 : ((V.2.2.2.2 k1) &&& 31) = 24
    · replace hf := m504 c506
      refine ML.tableIn (tgt := 1096) 24 (by rw [c506]; decide +kernel) (by decide) d_L_law_40 rfl rfl ?_
      refine ML.aload_n (i := 1) rfl rfl d_L_law_1096 rfl ?_
      refine ML.aload_n (i := 0) rfl rfl d_L_law_1097 rfl ?_
      refine ML.iload rfl d_L_law_1098 rfl ?_
      refine ML.iconst ic_1 d_L_law_1100 rfl ?_
      refine ML.iadd d_L_law_1101 rfl ?_
      obtain ⟨k483, e484, hf⟩ := mm_bind hf
      refine ML.sld e484 d_L_law_1102 rfl ?_
      refine ML.aload_n (i := 0) rfl rfl d_L_law_1103 rfl ?_
      refine ML.iload rfl d_L_law_1104 rfl ?_
      refine ML.iconst ic_2 d_L_law_1106 rfl ?_
      refine ML.iadd d_L_law_1107 rfl ?_
      obtain ⟨k485, e486, hf⟩ := mm_bind hf
      refine ML.sld e486 d_L_law_1108 rfl ?_
      refine ML.aload_n (i := 0) rfl rfl d_L_law_1109 rfl ?_
      refine ML.iload rfl d_L_law_1110 rfl ?_
      refine ML.iconst ic_3 d_L_law_1112 rfl ?_
      refine ML.iadd d_L_law_1113 rfl ?_
      obtain ⟨k487, e488, hf⟩ := mm_bind hf
      refine ML.sld e488 d_L_law_1114 rfl ?_
      obtain ⟨v490, e489, hf⟩ := mm_bind hf
      refine ML.callV1g (T_X_years V l (V.2.2.2.2 k483) (V.2.2.2.2 k485) (V.2.2.2.2 k487) s.2 _ e489) (fun _ _ q => q) cal_X_years rfl tg_32 ct_8 ww_1210 ww_1209 ww_1208 (by decide) (by simp [Value.category]) d_L_law_1115 rfl rfl ?_
      refine ML.aload_n (i := 2) rfl rfl d_L_law_1118 rfl ?_
      refine ML.aload_n (i := 0) rfl rfl d_L_law_1119 rfl ?_
      refine ML.iload rfl d_L_law_1120 rfl ?_
      refine ML.iconst ic_1 d_L_law_1122 rfl ?_
      refine ML.iadd d_L_law_1123 rfl ?_
      obtain ⟨k491, e492, hf⟩ := mm_bind hf
      refine ML.sld e492 d_L_law_1124 rfl ?_
      refine ML.aload_n (i := 0) rfl rfl d_L_law_1125 rfl ?_
      refine ML.iload rfl d_L_law_1126 rfl ?_
      refine ML.iconst ic_2 d_L_law_1128 rfl ?_
      refine ML.iadd d_L_law_1129 rfl ?_
      obtain ⟨k493, e494, hf⟩ := mm_bind hf
      refine ML.sld e494 d_L_law_1130 rfl ?_
      refine ML.aload_n (i := 0) rfl rfl d_L_law_1131 rfl ?_
      refine ML.iload rfl d_L_law_1132 rfl ?_
      refine ML.iconst ic_3 d_L_law_1134 rfl ?_
      refine ML.iadd d_L_law_1135 rfl ?_
      obtain ⟨k495, e496, hf⟩ := mm_bind hf
      refine ML.sld e496 d_L_law_1136 rfl ?_
      obtain ⟨v498, e497, hf⟩ := mm_bind hf
      refine ML.callV1g (T_M_years V l (V.2.2.2.2 k491) (V.2.2.2.2 k493) (V.2.2.2.2 k495) v490.2 _ e497) (fun _ _ q => q) cal_M_years rfl tg_261 ct_9 ww_2005 ww_2004 ww_2003 (by decide) (by simp [Value.category]) d_L_law_1137 rfl rfl ?_
      obtain ⟨m502, m503⟩ := mm_ifE hf
      refine ML.icmp_eq (tgt := 1223) d_L_law_1140 rfl rfl (fun c501 => ?_) (fun c501 => ?_)
      · replace hf := m502 c501
        obtain ⟨y499, e500, hf⟩ := mm_letE hf
        refine ML.iinc (k0 := 4) (lv' := [(4, .int y499), (0, .ref 31), (1, .ref 32), (2, .ref 261), (3, .ref 316)]) (by rw [ic_7]; exact e500) rfl (Nat.le_of_ble_eq_true rfl) rfl d_L_law_1223 rfl ?_
        refine ML.goto (tgt := 23) d_L_law_1226 rfl ?_
        obtain rfl := Option.some.inj hf
        have h9 := mm_wxL hx
        have n3 : (y499 : Int32).toInt = (s.1).toInt + 7 := by rw [e500]; exact n1
        exact ML.sub [1, 2, 3, 4, 0] (by rfl) (h9 _ _ (by dsimp only; omega) (by dsimp only; omega) (by dsimp only; omega) (by dsimp only; omega))
      · replace hf := m503 c501
        refine ML.iconst ic_0 d_L_law_1143 rfl ?_
        obtain rfl := Option.some.inj hf
        replace hf := mm_wxR hx
        exact absurd (Option.some.inj hf) (by decide)
    replace hf := m505 c506
    obtain ⟨m536, m537⟩ := mm_ifE hf
    by_cases c538 : ((V.2.2.2.2 k1) &&& 31) = 25
    · replace hf := m536 c538
      refine ML.tableIn (tgt := 1145) 25 (by rw [c538]; decide +kernel) (by decide) d_L_law_40 rfl rfl ?_
      refine ML.aload_n (i := 1) rfl rfl d_L_law_1145 rfl ?_
      refine ML.aload_n (i := 0) rfl rfl d_L_law_1146 rfl ?_
      refine ML.iload rfl d_L_law_1147 rfl ?_
      refine ML.iconst ic_1 d_L_law_1149 rfl ?_
      refine ML.iadd d_L_law_1150 rfl ?_
      obtain ⟨k507, e508, hf⟩ := mm_bind hf
      refine ML.sld e508 d_L_law_1151 rfl ?_
      refine ML.aload_n (i := 0) rfl rfl d_L_law_1152 rfl ?_
      refine ML.iload rfl d_L_law_1153 rfl ?_
      refine ML.iconst ic_2 d_L_law_1155 rfl ?_
      refine ML.iadd d_L_law_1156 rfl ?_
      obtain ⟨k509, e510, hf⟩ := mm_bind hf
      refine ML.sld e510 d_L_law_1157 rfl ?_
      obtain ⟨j511, e535, hf⟩ := mm_bind hf
      have K512 : ML V l Y_L_law 1000 601024 7293034 (fun _ => True) ck sk Z0 1166 [(0, .ref 31), (1, .ref 32), (2, .ref 261), (3, .ref 316), (4, .int s.1)] [.int j511, .int (V.2.2.2.2 k507), .ref 32] s.2 := by
        obtain ⟨v517, e516, hf⟩ := mm_bind hf
        refine ML.callV1g (T_X_mark V l (V.2.2.2.2 k507) j511 s.2 _ e516) (fun _ _ q => q) cal_X_mark rfl tg_32 ct_8 ww_1234 ww_1233 ww_1232 (by decide) (by simp [Value.category]) d_L_law_1166 rfl rfl ?_
        refine ML.aload_n (i := 2) rfl rfl d_L_law_1169 rfl ?_
        refine ML.aload_n (i := 0) rfl rfl d_L_law_1170 rfl ?_
        refine ML.iload rfl d_L_law_1171 rfl ?_
        refine ML.iconst ic_1 d_L_law_1173 rfl ?_
        refine ML.iadd d_L_law_1174 rfl ?_
        obtain ⟨k518, e519, hf⟩ := mm_bind hf
        refine ML.sld e519 d_L_law_1175 rfl ?_
        refine ML.aload_n (i := 0) rfl rfl d_L_law_1176 rfl ?_
        refine ML.iload rfl d_L_law_1177 rfl ?_
        refine ML.iconst ic_2 d_L_law_1179 rfl ?_
        refine ML.iadd d_L_law_1180 rfl ?_
        obtain ⟨k520, e521, hf⟩ := mm_bind hf
        refine ML.sld e521 d_L_law_1181 rfl ?_
        obtain ⟨j522, e534, hf⟩ := mm_bind hf
        have K523 : ML V l Y_L_law 1000 601024 7293034 (fun _ => True) ck sk Z0 1190 [(0, .ref 31), (1, .ref 32), (2, .ref 261), (3, .ref 316), (4, .int s.1)] [.int j522, .int (V.2.2.2.2 k518), .ref 261, .int v517.1] v517.2 := by
          obtain ⟨v528, e527, hf⟩ := mm_bind hf
          refine ML.callV1g (T_M_mark V l (V.2.2.2.2 k518) j522 v517.2 _ e527) (fun _ _ q => q) cal_M_mark rfl tg_261 ct_9 ww_2021 ww_2020 ww_2019 (by decide) (by simp [Value.category]) d_L_law_1190 rfl rfl ?_
          obtain ⟨m532, m533⟩ := mm_ifE hf
          refine ML.icmp_eq (tgt := 1223) d_L_law_1193 rfl rfl (fun c531 => ?_) (fun c531 => ?_)
          · replace hf := m532 c531
            obtain ⟨y529, e530, hf⟩ := mm_letE hf
            refine ML.iinc (k0 := 4) (lv' := [(4, .int y529), (0, .ref 31), (1, .ref 32), (2, .ref 261), (3, .ref 316)]) (by rw [ic_7]; exact e530) rfl (Nat.le_of_ble_eq_true rfl) rfl d_L_law_1223 rfl ?_
            refine ML.goto (tgt := 23) d_L_law_1226 rfl ?_
            obtain rfl := Option.some.inj hf
            have h9 := mm_wxL hx
            have n3 : (y529 : Int32).toInt = (s.1).toInt + 7 := by rw [e530]; exact n1
            exact ML.sub [1, 2, 3, 4, 0] (by rfl) (h9 _ _ (by dsimp only; omega) (by dsimp only; omega) (by dsimp only; omega) (by dsimp only; omega))
          · replace hf := m533 c531
            refine ML.iconst ic_0 d_L_law_1196 rfl ?_
            obtain rfl := Option.some.inj hf
            replace hf := mm_wxR hx
            exact absurd (Option.some.inj hf) (by decide)
        clear hf
        have hf := e534
        clear e534
        obtain ⟨m525, m526⟩ := mm_ifE hf
        refine ML.if_eq (tgt := 1189) d_L_law_1182 rfl rfl (fun c524 => ?_) (fun c524 => ?_)
        · replace hf := m525 c524
          refine ML.iconst ic_0 d_L_law_1189 rfl ?_
          obtain rfl := Option.some.inj hf
          exact ML.sub [0, 1, 2, 3, 4] (by rfl) K523
        · replace hf := m526 c524
          refine ML.iconst ic_1 d_L_law_1185 rfl ?_
          refine ML.goto (tgt := 1190) d_L_law_1186 rfl ?_
          obtain rfl := Option.some.inj hf
          exact ML.sub [0, 1, 2, 3, 4] (by rfl) K523
      clear hf
      have hf := e535
      clear e535
      obtain ⟨m514, m515⟩ := mm_ifE hf
      refine ML.if_eq (tgt := 1165) d_L_law_1158 rfl rfl (fun c513 => ?_) (fun c513 => ?_)
      · replace hf := m514 c513
        refine ML.iconst ic_0 d_L_law_1165 rfl ?_
        obtain rfl := Option.some.inj hf
        exact ML.sub [0, 1, 2, 3, 4] (by rfl) K512
      · replace hf := m515 c513
        refine ML.iconst ic_1 d_L_law_1161 rfl ?_
        refine ML.goto (tgt := 1166) d_L_law_1162 rfl ?_
        obtain rfl := Option.some.inj hf
        exact ML.sub [0, 1, 2, 3, 4] (by rfl) K512
    replace hf := m537 c538
    obtain ⟨m552, m553⟩ := mm_ifE hf
    by_cases c554 : ((V.2.2.2.2 k1) &&& 31) = 26
    · replace hf := m552 c554
      refine ML.tableIn (tgt := 1198) 26 (by rw [c554]; decide +kernel) (by decide) d_L_law_40 rfl rfl ?_
      refine ML.aload_n (i := 1) rfl rfl d_L_law_1198 rfl ?_
      refine ML.aload_n (i := 0) rfl rfl d_L_law_1199 rfl ?_
      refine ML.iload rfl d_L_law_1200 rfl ?_
      refine ML.iconst ic_1 d_L_law_1202 rfl ?_
      refine ML.iadd d_L_law_1203 rfl ?_
      obtain ⟨k539, e540, hf⟩ := mm_bind hf
      refine ML.sld e540 d_L_law_1204 rfl ?_
      obtain ⟨v542, e541, hf⟩ := mm_bind hf
      refine ML.callV1g (T_X_count V l (V.2.2.2.2 k539) s.2 _ e541) (fun _ _ q => q) cal_X_count rfl tg_32 ct_8 ww_1243 ww_1242 ww_1241 (by decide) (by simp [Value.category]) d_L_law_1205 rfl rfl ?_
      refine ML.aload_n (i := 2) rfl rfl d_L_law_1208 rfl ?_
      refine ML.aload_n (i := 0) rfl rfl d_L_law_1209 rfl ?_
      refine ML.iload rfl d_L_law_1210 rfl ?_
      refine ML.iconst ic_1 d_L_law_1212 rfl ?_
      refine ML.iadd d_L_law_1213 rfl ?_
      obtain ⟨k543, e544, hf⟩ := mm_bind hf
      refine ML.sld e544 d_L_law_1214 rfl ?_
      obtain ⟨v546, e545, hf⟩ := mm_bind hf
      refine ML.callV1g (T_M_count V l (V.2.2.2.2 k543) v542.2 _ e545) (fun _ _ q => q) cal_M_count rfl tg_261 ct_9 ww_2029 ww_2028 ww_2027 (by decide) (by simp [Value.category]) d_L_law_1215 rfl rfl ?_
      obtain ⟨m550, m551⟩ := mm_ifE hf
      refine ML.icmp_eq (tgt := 1223) d_L_law_1218 rfl rfl (fun c549 => ?_) (fun c549 => ?_)
      · replace hf := m550 c549
        obtain ⟨y547, e548, hf⟩ := mm_letE hf
        refine ML.iinc (k0 := 4) (lv' := [(4, .int y547), (0, .ref 31), (1, .ref 32), (2, .ref 261), (3, .ref 316)]) (by rw [ic_7]; exact e548) rfl (Nat.le_of_ble_eq_true rfl) rfl d_L_law_1223 rfl ?_
        refine ML.goto (tgt := 23) d_L_law_1226 rfl ?_
        obtain rfl := Option.some.inj hf
        have h9 := mm_wxL hx
        have n3 : (y547 : Int32).toInt = (s.1).toInt + 7 := by rw [e548]; exact n1
        exact ML.sub [1, 2, 3, 4, 0] (by rfl) (h9 _ _ (by dsimp only; omega) (by dsimp only; omega) (by dsimp only; omega) (by dsimp only; omega))
      · replace hf := m551 c549
        refine ML.iconst ic_0 d_L_law_1221 rfl ?_
        obtain rfl := Option.some.inj hf
        replace hf := mm_wxR hx
        exact absurd (Option.some.inj hf) (by decide)
    replace hf := m553 c554
    have zc38 := mm_swOut c38
    have zc50 := mm_swOut c50
    have zc62 := mm_swOut c62
    have zc92 := mm_swOut c92
    have zc112 := mm_swOut c112
    have zc136 := mm_swOut c136
    have zc156 := mm_swOut c156
    have zc180 := mm_swOut c180
    have zc200 := mm_swOut c200
    have zc216 := mm_swOut c216
    have zc228 := mm_swOut c228
    have zc252 := mm_swOut c252
    have zc264 := mm_swOut c264
    have zc280 := mm_swOut c280
    have zc296 := mm_swOut c296
    have zc308 := mm_swOut c308
    have zc346 := mm_swOut c346
    have zc378 := mm_swOut c378
    have zc394 := mm_swOut c394
    have zc410 := mm_swOut c410
    have zc430 := mm_swOut c430
    have zc450 := mm_swOut c450
    have zc462 := mm_swOut c462
    have zc482 := mm_swOut c482
    have zc506 := mm_swOut c506
    have zc538 := mm_swOut c538
    have zc554 := mm_swOut c554
    refine ML.tableOut (tgt := 1223) (by replace zc38 : _ ≠ (0 : Int) := zc38; replace zc50 : _ ≠ (1 : Int) := zc50; replace zc62 : _ ≠ (2 : Int) := zc62; replace zc92 : _ ≠ (3 : Int) := zc92; replace zc112 : _ ≠ (4 : Int) := zc112; replace zc136 : _ ≠ (5 : Int) := zc136; replace zc156 : _ ≠ (6 : Int) := zc156; replace zc180 : _ ≠ (7 : Int) := zc180; replace zc200 : _ ≠ (8 : Int) := zc200; replace zc216 : _ ≠ (9 : Int) := zc216; replace zc228 : _ ≠ (10 : Int) := zc228; replace zc252 : _ ≠ (11 : Int) := zc252; replace zc264 : _ ≠ (12 : Int) := zc264; replace zc280 : _ ≠ (13 : Int) := zc280; replace zc296 : _ ≠ (14 : Int) := zc296; replace zc308 : _ ≠ (15 : Int) := zc308; replace zc346 : _ ≠ (16 : Int) := zc346; replace zc378 : _ ≠ (17 : Int) := zc378; replace zc394 : _ ≠ (18 : Int) := zc394; replace zc410 : _ ≠ (19 : Int) := zc410; replace zc430 : _ ≠ (20 : Int) := zc430; replace zc450 : _ ≠ (21 : Int) := zc450; replace zc462 : _ ≠ (22 : Int) := zc462; replace zc482 : _ ≠ (23 : Int) := zc482; replace zc506 : _ ≠ (24 : Int) := zc506; replace zc538 : _ ≠ (25 : Int) := zc538; replace zc554 : _ ≠ (26 : Int) := zc554; omega) d_L_law_40 rfl ?_
    obtain ⟨y555, e556, hf⟩ := mm_letE hf
    refine ML.iinc (k0 := 4) (lv' := [(4, .int y555), (0, .ref 31), (1, .ref 32), (2, .ref 261), (3, .ref 316)]) (by rw [ic_7]; exact e556) rfl (Nat.le_of_ble_eq_true rfl) rfl d_L_law_1223 rfl ?_
    refine ML.goto (tgt := 23) d_L_law_1226 rfl ?_
    obtain rfl := Option.some.inj hf
    have h9 := mm_wxL hx
    have n3 : (y555 : Int32).toInt = (s.1).toInt + 7 := by rw [e556]; exact n1
    exact ML.sub [1, 2, 3, 4, 0] (by rfl) (h9 _ _ (by dsimp only; omega) (by dsimp only; omega) (by dsimp only; omega) (by dsimp only; omega))
