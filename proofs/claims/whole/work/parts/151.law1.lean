/-! the law: its numbers and its walk, by program -/
theorem cv_L_105 : CV RL 105 6 yX6_say cX6_say 4 (some .int) 3 := ⟨(RX6, TX6, 56), rfl, by decide, gw_all _ [1280, 1281, 1282, 50, 1283] (by decide) (by decide +kernel), by decide +kernel⟩
theorem cv_L_101 : CV RL 101 5 yX5_say cX5_say 4 (some .int) 3 := ⟨(RX5, TX5, 11), rfl, by decide, gw_all _ [762, 763, 764, 44, 765] (by decide) (by decide +kernel), by decide +kernel⟩
theorem kl_L_13 : Cond.constantLong RL 13 (4294967295 : Int64) ∈ GW := gw_in 1329 (by decide +kernel) rfl
theorem cv_L_15 : CV RL 15 5 yX5_feed cX5_feed 5 (some .int) 2 := ⟨(RX5, TX5, 11), rfl, by decide, gw_all _ [339, 340, 341, 44, 342] (by decide) (by decide +kernel), by decide +kernel⟩
theorem cv_L_19 : CV RL 19 6 yX6_feed cX6_feed 5 (some .int) 2 := ⟨(RX6, TX6, 56), rfl, by decide, gw_all _ [1016, 1017, 1018, 50, 1019] (by decide) (by decide +kernel), by decide +kernel⟩
theorem cv_L_20 : CV RL 20 5 yX5_island cX5_island 4 (some .int) 0 := ⟨(RX5, TX5, 11), rfl, by decide, gw_all _ [345, 346, 347, 44, 348] (by decide) (by decide +kernel), by decide +kernel⟩
theorem cv_L_24 : CV RL 24 6 yX6_island cX6_island 2 (some .int) 0 := ⟨(RX6, TX6, 56), rfl, by decide, gw_all _ [1027, 1028, 1029, 50, 1030] (by decide) (by decide +kernel), by decide +kernel⟩
theorem cv_L_25 : CV RL 25 5 yX5_fault cX5_fault 1 (some .int) 0 := ⟨(RX5, TX5, 11), rfl, by decide, gw_all _ [502, 503, 504, 44, 505] (by decide) (by decide +kernel), by decide +kernel⟩
theorem cv_L_28 : CV RL 28 6 yX6_fault cX6_fault 1 (some .int) 0 := ⟨(RX6, TX6, 56), rfl, by decide, gw_all _ [1104, 1105, 1106, 50, 1107] (by decide) (by decide +kernel), by decide +kernel⟩
theorem cv_L_29 : CV RL 29 5 yX5_told cX5_told 2 (some .int) 1 := ⟨(RX5, TX5, 11), rfl, by decide, gw_all _ [506, 507, 508, 44, 509] (by decide) (by decide +kernel), by decide +kernel⟩
theorem cv_L_33 : CV RL 33 6 yX6_told cX6_told 2 (some .int) 1 := ⟨(RX6, TX6, 56), rfl, by decide, gw_all _ [1108, 1109, 1110, 50, 1111] (by decide) (by decide +kernel), by decide +kernel⟩
theorem cv_L_34 : CV RL 34 5 yX5_mark cX5_mark 3 (some .int) 2 := ⟨(RX5, TX5, 11), rfl, by decide, gw_all _ [510, 511, 512, 44, 513] (by decide) (by decide +kernel), by decide +kernel⟩
theorem cv_L_38 : CV RL 38 6 yX6_mark cX6_mark 3 (some .int) 2 := ⟨(RX6, TX6, 56), rfl, by decide, gw_all _ [1112, 1113, 1114, 50, 1115] (by decide) (by decide +kernel), by decide +kernel⟩
theorem cv_L_39 : CV RL 39 5 yX5_map cX5_map 4 (some .int) 3 := ⟨(RX5, TX5, 11), rfl, by decide, gw_all _ [519, 520, 521, 44, 522] (by decide) (by decide +kernel), by decide +kernel⟩
theorem cv_L_43 : CV RL 43 6 yX6_map cX6_map 4 (some .int) 3 := ⟨(RX6, TX6, 56), rfl, by decide, gw_all _ [1121, 1122, 1123, 50, 1124] (by decide) (by decide +kernel), by decide +kernel⟩
theorem cv_L_44 : CV RL 44 5 yX5_leads cX5_leads 6 (some .int) 2 := ⟨(RX5, TX5, 11), rfl, by decide, gw_all _ [526, 527, 528, 44, 529] (by decide) (by decide +kernel), by decide +kernel⟩
theorem cv_L_47 : CV RL 47 6 yX6_leads cX6_leads 4 (some .int) 2 := ⟨(RX6, TX6, 56), rfl, by decide, gw_all _ [1129, 1130, 1131, 50, 1132] (by decide) (by decide +kernel), by decide +kernel⟩
theorem cv_L_48 : CV RL 48 5 yX5_knows cX5_knows 3 (some .int) 2 := ⟨(RX5, TX5, 11), rfl, by decide, gw_all _ [531, 532, 533, 44, 534] (by decide) (by decide +kernel), by decide +kernel⟩
theorem cv_L_51 : CV RL 51 6 yX6_knows cX6_knows 3 (some .int) 2 := ⟨(RX6, TX6, 56), rfl, by decide, gw_all _ [1147, 1148, 1149, 50, 1150] (by decide) (by decide +kernel), by decide +kernel⟩
theorem cv_L_52 : CV RL 52 5 yX5_show cX5_show 4 (some .int) 3 := ⟨(RX5, TX5, 11), rfl, by decide, gw_all _ [535, 536, 537, 44, 538] (by decide) (by decide +kernel), by decide +kernel⟩
theorem cv_L_55 : CV RL 55 6 yX6_show cX6_show 4 (some .int) 3 := ⟨(RX6, TX6, 56), rfl, by decide, gw_all _ [1151, 1152, 1153, 50, 1154] (by decide) (by decide +kernel), by decide +kernel⟩
theorem cv_L_56 : CV RL 56 5 yX5_trade cX5_trade 5 (some .int) 4 := ⟨(RX5, TX5, 11), rfl, by decide, gw_all _ [557, 558, 559, 44, 560] (by decide) (by decide +kernel), by decide +kernel⟩
theorem cv_L_60 : CV RL 60 6 yX6_trade cX6_trade 5 (some .int) 4 := ⟨(RX6, TX6, 56), rfl, by decide, gw_all _ [1161, 1162, 1163, 50, 1164] (by decide) (by decide +kernel), by decide +kernel⟩
theorem cv_L_61 : CV RL 61 5 yX5_dig cX5_dig 4 (some .int) 3 := ⟨(RX5, TX5, 11), rfl, by decide, gw_all _ [561, 562, 563, 44, 564] (by decide) (by decide +kernel), by decide +kernel⟩
theorem cv_L_64 : CV RL 64 6 yX6_dig cX6_dig 4 (some .int) 3 := ⟨(RX6, TX6, 56), rfl, by decide, gw_all _ [1165, 1166, 1167, 50, 1168] (by decide) (by decide +kernel), by decide +kernel⟩
theorem cv_L_65 : CV RL 65 5 yX5_purse cX5_purse 2 (some .int) 1 := ⟨(RX5, TX5, 11), rfl, by decide, gw_all _ [577, 578, 579, 44, 580] (by decide) (by decide +kernel), by decide +kernel⟩
theorem cv_L_68 : CV RL 68 6 yX6_purse cX6_purse 2 (some .int) 1 := ⟨(RX6, TX6, 56), rfl, by decide, gw_all _ [1174, 1175, 1176, 50, 1177] (by decide) (by decide +kernel), by decide +kernel⟩
theorem cv_L_69 : CV RL 69 5 yX5_may cX5_may 3 (some .int) 2 := ⟨(RX5, TX5, 11), rfl, by decide, gw_all _ [581, 582, 583, 44, 584] (by decide) (by decide +kernel), by decide +kernel⟩
theorem cv_L_72 : CV RL 72 6 yX6_may cX6_may 5 (some .int) 2 := ⟨(RX6, TX6, 56), rfl, by decide, gw_all _ [1178, 1179, 1180, 50, 1181] (by decide) (by decide +kernel), by decide +kernel⟩
theorem cv_L_73 : CV RL 73 5 yX5_sure cX5_sure 3 (some .int) 2 := ⟨(RX5, TX5, 11), rfl, by decide, gw_all _ [666, 667, 668, 44, 669] (by decide) (by decide +kernel), by decide +kernel⟩
theorem cv_L_76 : CV RL 76 6 yX6_sure cX6_sure 7 (some .int) 2 := ⟨(RX6, TX6, 56), rfl, by decide, gw_all _ [1230, 1231, 1232, 50, 1233] (by decide) (by decide +kernel), by decide +kernel⟩
theorem cv_L_77 : CV RL 77 5 yX5_area cX5_area 5 (some .int) 3 := ⟨(RX5, TX5, 11), rfl, by decide, gw_all _ [678, 679, 680, 44, 681] (by decide) (by decide +kernel), by decide +kernel⟩
theorem cv_L_80 : CV RL 80 6 yX6_area cX6_area 4 (some .int) 3 := ⟨(RX6, TX6, 56), rfl, by decide, gw_all _ [1234, 1235, 1236, 50, 1237] (by decide) (by decide +kernel), by decide +kernel⟩
theorem cv_L_81 : CV RL 81 5 yX5_best cX5_best 3 (some .int) 2 := ⟨(RX5, TX5, 11), rfl, by decide, gw_all _ [686, 687, 688, 44, 689] (by decide) (by decide +kernel), by decide +kernel⟩
theorem cv_L_84 : CV RL 84 6 yX6_best cX6_best 4 (some .int) 2 := ⟨(RX6, TX6, 56), rfl, by decide, gw_all _ [1239, 1240, 1241, 50, 1242] (by decide) (by decide +kernel), by decide +kernel⟩
theorem cv_L_85 : CV RL 85 5 yX5_corner cX5_corner 4 (some .int) 3 := ⟨(RX5, TX5, 11), rfl, by decide, gw_all _ [720, 721, 722, 44, 723] (by decide) (by decide +kernel), by decide +kernel⟩
theorem cv_L_88 : CV RL 88 6 yX6_corner cX6_corner 4 (some .int) 3 := ⟨(RX6, TX6, 56), rfl, by decide, gw_all _ [1259, 1260, 1261, 50, 1262] (by decide) (by decide +kernel), by decide +kernel⟩
theorem cv_L_89 : CV RL 89 5 yX5_bestCorner cX5_bestCorner 9 (some .int) 2 := ⟨(RX5, TX5, 11), rfl, by decide, gw_all _ [736, 737, 738, 44, 739] (by decide) (by decide +kernel), by decide +kernel⟩
theorem cv_L_92 : CV RL 92 6 yX6_bestCorner cX6_bestCorner 9 (some .int) 2 := ⟨(RX6, TX6, 56), rfl, by decide, gw_all _ [1267, 1268, 1269, 50, 1270] (by decide) (by decide +kernel), by decide +kernel⟩
theorem cv_L_93 : CV RL 93 5 yX5_spades cX5_spades 2 (some .int) 1 := ⟨(RX5, TX5, 11), rfl, by decide, gw_all _ [740, 741, 742, 44, 743] (by decide) (by decide +kernel), by decide +kernel⟩
theorem cv_L_96 : CV RL 96 6 yX6_spades cX6_spades 4 (some .int) 1 := ⟨(RX6, TX6, 56), rfl, by decide, gw_all _ [1272, 1273, 1274, 50, 1275] (by decide) (by decide +kernel), by decide +kernel⟩
theorem cv_L_97 : CV RL 97 5 yX5_found cX5_found 5 (some .int) 1 := ⟨(RX5, TX5, 11), rfl, by decide, gw_all _ [748, 749, 750, 44, 751] (by decide) (by decide +kernel), by decide +kernel⟩
theorem cv_L_100 : CV RL 100 6 yX6_found cX6_found 8 (some .int) 1 := ⟨(RX6, TX6, 56), rfl, by decide, gw_all _ [1276, 1277, 1278, 50, 1279] (by decide) (by decide +kernel), by decide +kernel⟩
theorem cv_L_106 : CV RL 106 5 yX5_forget cX5_forget 2 (some .int) 0 := ⟨(RX5, TX5, 11), rfl, by decide, gw_all _ [770, 771, 772, 44, 773] (by decide) (by decide +kernel), by decide +kernel⟩
theorem cv_L_109 : CV RL 109 6 yX6_forget cX6_forget 2 (some .int) 0 := ⟨(RX6, TX6, 56), rfl, by decide, gw_all _ [1284, 1285, 1286, 50, 1287] (by decide) (by decide +kernel), by decide +kernel⟩
theorem cv_L_110 : CV RL 110 5 yX5_saying cX5_saying 3 (some .int) 2 := ⟨(RX5, TX5, 11), rfl, by decide, gw_all _ [774, 775, 776, 44, 777] (by decide) (by decide +kernel), by decide +kernel⟩
theorem cv_L_113 : CV RL 113 6 yX6_saying cX6_saying 6 (some .int) 2 := ⟨(RX6, TX6, 56), rfl, by decide, gw_all _ [1288, 1289, 1290, 50, 1291] (by decide) (by decide +kernel), by decide +kernel⟩
theorem cv_L_114 : CV RL 114 5 yX5_loudest cX5_loudest 1 (some .int) 0 := ⟨(RX5, TX5, 11), rfl, by decide, gw_all _ [787, 788, 789, 44, 790] (by decide) (by decide +kernel), by decide +kernel⟩
theorem cv_L_117 : CV RL 117 6 yX6_loudest cX6_loudest 6 (some .int) 0 := ⟨(RX6, TX6, 56), rfl, by decide, gw_all _ [1296, 1297, 1298, 50, 1299] (by decide) (by decide +kernel), by decide +kernel⟩
theorem cv_L_118 : CV RL 118 5 yX5_hunt cX5_hunt 4 (some .int) 1 := ⟨(RX5, TX5, 11), rfl, by decide, gw_all _ [800, 801, 802, 44, 803] (by decide) (by decide +kernel), by decide +kernel⟩
theorem cv_L_121 : CV RL 121 6 yX6_hunt cX6_hunt 4 (some .int) 1 := ⟨(RX6, TX6, 56), rfl, by decide, gw_all _ [1300, 1301, 1302, 50, 1303] (by decide) (by decide +kernel), by decide +kernel⟩
theorem cv_L_122 : CV RL 122 5 yX5_seed cX5_seed 3 (some .int) 1 := ⟨(RX5, TX5, 11), rfl, by decide, gw_all _ [820, 821, 822, 44, 823] (by decide) (by decide +kernel), by decide +kernel⟩
theorem cv_L_125 : CV RL 125 6 yX6_seed cX6_seed 3 (some .int) 1 := ⟨(RX6, TX6, 56), rfl, by decide, gw_all _ [1317, 1318, 1319, 50, 1320] (by decide) (by decide +kernel), by decide +kernel⟩
theorem cv_L_126 : CV RL 126 5 yX5_keep cX5_keep 2 (some .int) 1 := ⟨(RX5, TX5, 11), rfl, by decide, gw_all _ [824, 825, 826, 44, 827] (by decide) (by decide +kernel), by decide +kernel⟩
theorem cv_L_129 : CV RL 129 6 yX6_keep cX6_keep 4 (some .int) 1 := ⟨(RX6, TX6, 56), rfl, by decide, gw_all _ [1321, 1322, 1323, 50, 1324] (by decide) (by decide +kernel), by decide +kernel⟩
theorem cv_L_130 : CV RL 130 5 yX5_goBack cX5_goBack 2 (some .int) 1 := ⟨(RX5, TX5, 11), rfl, by decide, gw_all _ [833, 834, 835, 44, 836] (by decide) (by decide +kernel), by decide +kernel⟩
theorem cv_L_133 : CV RL 133 6 yX6_goBack cX6_goBack 4 (some .int) 1 := ⟨(RX6, TX6, 56), rfl, by decide, gw_all _ [1325, 1326, 1327, 50, 1328] (by decide) (by decide +kernel), by decide +kernel⟩
theorem nw_L_7 : NW RL 7 5 := ⟨(RX5, TX5, 11), rfl, by decide, gw_all _ [59, 60, 44] (by decide) (by decide +kernel), lay_5, ⟨tyX5, tyX5_ok, by decide +kernel⟩⟩
theorem co_L_9 : CO RL 9 yX5_init cX5_init 1 0 := ⟨gw_all _ [63, 62, 44, 61] (by decide) (by decide +kernel), by decide +kernel, by decide +kernel⟩
theorem nw_L_10 : NW RL 10 6 := ⟨(RX6, TX6, 56), rfl, by decide, gw_all _ [837, 838, 50] (by decide) (by decide +kernel), lay_6, ⟨tyX6, tyX6_ok, by decide +kernel⟩⟩
theorem co_L_12 : CO RL 12 yX6_init cX6_init 1 0 := ⟨gw_all _ [841, 840, 50, 839] (by decide) (by decide +kernel), by decide +kernel, by decide +kernel⟩
def b_L_law_1050 (f L : Nat) (sx : Nat → Int32) (k18 : Nat → Nat → Int32 → Hp → Option (Unit)) (x1 : Nat) (x2 : Nat) (x3 : Int32) (h : Hp) : Option Unit :=
  lt (x3 + (5 : Int32)) fun v1_ =>
  k18 x1 x2 v1_ h
def b_L_law_891 (f L : Nat) (sx : Nat → Int32) (k18 : Nat → Nat → Int32 → Hp → Option (Unit)) (x1 : Nat) (x2 : Nat) (x3 : Int32) (y0 : Int32) (y1 : Nat) (y2 : Int32) (y3 : Int32) (y4 : Int32) (h : Hp) : Option Unit :=
  q_on h y1 6 (
  bi (f_X6_say f y1 y2 y3 y4 h) fun v3_ h2_ =>
  if y0 = v3_ then
  (b_L_law_1050 f L sx k18 x1 x2 x3 h2_)
  else
  (q_one (0 : Int32)))
def b_L_law_864 (f L : Nat) (sx : Nat → Int32) (k18 : Nat → Nat → Int32 → Hp → Option (Unit)) (x1 : Nat) (x2 : Nat) (x3 : Int32) (y0 : Nat) (y1 : Int32) (y2 : Int32) (y3 : Int32) (h : Hp) : Option Unit :=
  q_on h y0 5 (
  bi (f_X5_say f y0 y1 y2 y3 h) fun v3_ h2_ =>
  (q_sx L sx (x3 + (1 : Int32))).bind fun v4_ =>
  (q_sx L sx (x3 + (2 : Int32))).bind fun v5_ =>
  (q_sx L sx (x3 + (3 : Int32))).bind fun v6_ =>
  if v6_ = 0 then
  (b_L_law_891 f L sx k18 x1 x2 x3 v3_ x2 v4_ v5_ (0 : Int32) h2_)
  else
  (b_L_law_891 f L sx k18 x1 x2 x3 v3_ x2 v4_ v5_ (1 : Int32) h2_))
def b_L_law_18 (f L : Nat) (sx : Nat → Int32) (k18 : Nat → Nat → Int32 → Hp → Option (Unit)) (x1 : Nat) (x2 : Nat) (x3 : Int32) (h : Hp) : Option Unit :=
  if ((Int32.ofNat L) - (5 : Int32)) < x3 then
  (q_one (1 : Int32))
  else
  ((q_sx L sx x3).bind fun v1_ =>
  sw (v1_ &&& (31 : Int32)) 0 [
  ((q_sx L sx (x3 + (1 : Int32))).bind fun v2_ =>
  (q_sx L sx (x3 + (2 : Int32))).bind fun v3_ =>
  (q_sx L sx (x3 + (3 : Int32))).bind fun v4_ =>
  q_on h x1 5 (
  bi (f_X5_feed f x1 v2_ ((v3_.toInt64 <<< ((32 : Int32).toInt64 &&& 63)) ||| (v4_.toInt64 &&& (4294967295 : Int64))) h) fun v7_ h6_ =>
  (q_sx L sx (x3 + (1 : Int32))).bind fun v8_ =>
  (q_sx L sx (x3 + (2 : Int32))).bind fun v9_ =>
  (q_sx L sx (x3 + (3 : Int32))).bind fun v10_ =>
  q_on h6_ x2 6 (
  bi (f_X6_feed f x2 v8_ ((v9_.toInt64 <<< ((32 : Int32).toInt64 &&& 63)) ||| (v10_.toInt64 &&& (4294967295 : Int64))) h6_) fun v13_ h12_ =>
  if v7_ = v13_ then
  (b_L_law_1050 f L sx k18 x1 x2 x3 h12_)
  else
  (q_one (0 : Int32))))), 
  (q_on h x1 5 (
  bi (f_X5_island f x1 h) fun v16_ h15_ =>
  q_on h15_ x2 6 (
  bi (f_X6_island f x2 h15_) fun v19_ h18_ =>
  if v16_ = v19_ then
  (b_L_law_1050 f L sx k18 x1 x2 x3 h18_)
  else
  (q_one (0 : Int32))))), 
  (q_on h x1 5 (
  bi (f_X5_fault f x1 h) fun v22_ h21_ =>
  q_on h21_ x2 6 (
  bi (f_X6_fault f x2 h21_) fun v25_ h24_ =>
  if v22_ = v25_ then
  (b_L_law_1050 f L sx k18 x1 x2 x3 h24_)
  else
  (q_one (0 : Int32))))), 
  ((q_sx L sx (x3 + (1 : Int32))).bind fun v26_ =>
  q_on h x1 5 (
  bi (f_X5_told f x1 v26_ h) fun v29_ h28_ =>
  (q_sx L sx (x3 + (1 : Int32))).bind fun v30_ =>
  q_on h28_ x2 6 (
  bi (f_X6_told f x2 v30_ h28_) fun v33_ h32_ =>
  if v29_ = v33_ then
  (b_L_law_1050 f L sx k18 x1 x2 x3 h32_)
  else
  (q_one (0 : Int32))))), 
  ((q_sx L sx (x3 + (1 : Int32))).bind fun v34_ =>
  (q_sx L sx (x3 + (2 : Int32))).bind fun v35_ =>
  q_on h x1 5 (
  bi (f_X5_mark f x1 v34_ v35_ h) fun v38_ h37_ =>
  (q_sx L sx (x3 + (1 : Int32))).bind fun v39_ =>
  (q_sx L sx (x3 + (2 : Int32))).bind fun v40_ =>
  q_on h37_ x2 6 (
  bi (f_X6_mark f x2 v39_ v40_ h37_) fun v43_ h42_ =>
  if v38_ = v43_ then
  (b_L_law_1050 f L sx k18 x1 x2 x3 h42_)
  else
  (q_one (0 : Int32))))), 
  ((q_sx L sx (x3 + (1 : Int32))).bind fun v44_ =>
  (q_sx L sx (x3 + (2 : Int32))).bind fun v45_ =>
  (q_sx L sx (x3 + (3 : Int32))).bind fun v46_ =>
  q_on h x1 5 (
  bi (f_X5_map f x1 v44_ v45_ v46_ h) fun v49_ h48_ =>
  (q_sx L sx (x3 + (1 : Int32))).bind fun v50_ =>
  (q_sx L sx (x3 + (2 : Int32))).bind fun v51_ =>
  (q_sx L sx (x3 + (3 : Int32))).bind fun v52_ =>
  q_on h48_ x2 6 (
  bi (f_X6_map f x2 v50_ v51_ v52_ h48_) fun v55_ h54_ =>
  if v49_ = v55_ then
  (b_L_law_1050 f L sx k18 x1 x2 x3 h54_)
  else
  (q_one (0 : Int32))))), 
  ((q_sx L sx (x3 + (1 : Int32))).bind fun v56_ =>
  (q_sx L sx (x3 + (2 : Int32))).bind fun v57_ =>
  q_on h x1 5 (
  bi (f_X5_leads f x1 v56_ v57_ h) fun v60_ h59_ =>
  (q_sx L sx (x3 + (1 : Int32))).bind fun v61_ =>
  (q_sx L sx (x3 + (2 : Int32))).bind fun v62_ =>
  q_on h59_ x2 6 (
  bi (f_X6_leads f x2 v61_ v62_ h59_) fun v65_ h64_ =>
  if v60_ = v65_ then
  (b_L_law_1050 f L sx k18 x1 x2 x3 h64_)
  else
  (q_one (0 : Int32))))), 
  ((q_sx L sx (x3 + (1 : Int32))).bind fun v66_ =>
  (q_sx L sx (x3 + (2 : Int32))).bind fun v67_ =>
  q_on h x1 5 (
  bi (f_X5_knows f x1 v66_ v67_ h) fun v70_ h69_ =>
  (q_sx L sx (x3 + (1 : Int32))).bind fun v71_ =>
  (q_sx L sx (x3 + (2 : Int32))).bind fun v72_ =>
  q_on h69_ x2 6 (
  bi (f_X6_knows f x2 v71_ v72_ h69_) fun v75_ h74_ =>
  if v70_ = v75_ then
  (b_L_law_1050 f L sx k18 x1 x2 x3 h74_)
  else
  (q_one (0 : Int32))))), 
  ((q_sx L sx (x3 + (1 : Int32))).bind fun v76_ =>
  (q_sx L sx (x3 + (2 : Int32))).bind fun v77_ =>
  (q_sx L sx (x3 + (3 : Int32))).bind fun v78_ =>
  q_on h x1 5 (
  bi (f_X5_show f x1 v76_ v77_ v78_ h) fun v81_ h80_ =>
  (q_sx L sx (x3 + (1 : Int32))).bind fun v82_ =>
  (q_sx L sx (x3 + (2 : Int32))).bind fun v83_ =>
  (q_sx L sx (x3 + (3 : Int32))).bind fun v84_ =>
  q_on h80_ x2 6 (
  bi (f_X6_show f x2 v82_ v83_ v84_ h80_) fun v87_ h86_ =>
  if v81_ = v87_ then
  (b_L_law_1050 f L sx k18 x1 x2 x3 h86_)
  else
  (q_one (0 : Int32))))), 
  ((q_sx L sx (x3 + (1 : Int32))).bind fun v88_ =>
  (q_sx L sx (x3 + (2 : Int32))).bind fun v89_ =>
  (q_sx L sx (x3 + (3 : Int32))).bind fun v90_ =>
  (q_sx L sx (x3 + (4 : Int32))).bind fun v91_ =>
  q_on h x1 5 (
  bi (f_X5_trade f x1 v88_ v89_ v90_ v91_ h) fun v94_ h93_ =>
  (q_sx L sx (x3 + (1 : Int32))).bind fun v95_ =>
  (q_sx L sx (x3 + (2 : Int32))).bind fun v96_ =>
  (q_sx L sx (x3 + (3 : Int32))).bind fun v97_ =>
  (q_sx L sx (x3 + (4 : Int32))).bind fun v98_ =>
  q_on h93_ x2 6 (
  bi (f_X6_trade f x2 v95_ v96_ v97_ v98_ h93_) fun v101_ h100_ =>
  if v94_ = v101_ then
  (b_L_law_1050 f L sx k18 x1 x2 x3 h100_)
  else
  (q_one (0 : Int32))))), 
  ((q_sx L sx (x3 + (1 : Int32))).bind fun v102_ =>
  (q_sx L sx (x3 + (2 : Int32))).bind fun v103_ =>
  (q_sx L sx (x3 + (3 : Int32))).bind fun v104_ =>
  q_on h x1 5 (
  bi (f_X5_dig f x1 v102_ v103_ v104_ h) fun v107_ h106_ =>
  (q_sx L sx (x3 + (1 : Int32))).bind fun v108_ =>
  (q_sx L sx (x3 + (2 : Int32))).bind fun v109_ =>
  (q_sx L sx (x3 + (3 : Int32))).bind fun v110_ =>
  q_on h106_ x2 6 (
  bi (f_X6_dig f x2 v108_ v109_ v110_ h106_) fun v113_ h112_ =>
  if v107_ = v113_ then
  (b_L_law_1050 f L sx k18 x1 x2 x3 h112_)
  else
  (q_one (0 : Int32))))), 
  ((q_sx L sx (x3 + (1 : Int32))).bind fun v114_ =>
  q_on h x1 5 (
  bi (f_X5_purse f x1 v114_ h) fun v117_ h116_ =>
  (q_sx L sx (x3 + (1 : Int32))).bind fun v118_ =>
  q_on h116_ x2 6 (
  bi (f_X6_purse f x2 v118_ h116_) fun v121_ h120_ =>
  if v117_ = v121_ then
  (b_L_law_1050 f L sx k18 x1 x2 x3 h120_)
  else
  (q_one (0 : Int32))))), 
  ((q_sx L sx (x3 + (1 : Int32))).bind fun v122_ =>
  (q_sx L sx (x3 + (2 : Int32))).bind fun v123_ =>
  q_on h x1 5 (
  bi (f_X5_may f x1 v122_ v123_ h) fun v126_ h125_ =>
  (q_sx L sx (x3 + (1 : Int32))).bind fun v127_ =>
  (q_sx L sx (x3 + (2 : Int32))).bind fun v128_ =>
  q_on h125_ x2 6 (
  bi (f_X6_may f x2 v127_ v128_ h125_) fun v131_ h130_ =>
  if v126_ = v131_ then
  (b_L_law_1050 f L sx k18 x1 x2 x3 h130_)
  else
  (q_one (0 : Int32))))), 
  ((q_sx L sx (x3 + (1 : Int32))).bind fun v132_ =>
  (q_sx L sx (x3 + (2 : Int32))).bind fun v133_ =>
  q_on h x1 5 (
  bi (f_X5_sure f x1 v132_ v133_ h) fun v136_ h135_ =>
  (q_sx L sx (x3 + (1 : Int32))).bind fun v137_ =>
  (q_sx L sx (x3 + (2 : Int32))).bind fun v138_ =>
  q_on h135_ x2 6 (
  bi (f_X6_sure f x2 v137_ v138_ h135_) fun v141_ h140_ =>
  if v136_ = v141_ then
  (b_L_law_1050 f L sx k18 x1 x2 x3 h140_)
  else
  (q_one (0 : Int32))))), 
  ((q_sx L sx (x3 + (1 : Int32))).bind fun v142_ =>
  (q_sx L sx (x3 + (2 : Int32))).bind fun v143_ =>
  (q_sx L sx (x3 + (3 : Int32))).bind fun v144_ =>
  q_on h x1 5 (
  bi (f_X5_area f x1 v142_ v143_ v144_ h) fun v147_ h146_ =>
  (q_sx L sx (x3 + (1 : Int32))).bind fun v148_ =>
  (q_sx L sx (x3 + (2 : Int32))).bind fun v149_ =>
  (q_sx L sx (x3 + (3 : Int32))).bind fun v150_ =>
  q_on h146_ x2 6 (
  bi (f_X6_area f x2 v148_ v149_ v150_ h146_) fun v153_ h152_ =>
  if v147_ = v153_ then
  (b_L_law_1050 f L sx k18 x1 x2 x3 h152_)
  else
  (q_one (0 : Int32))))), 
  ((q_sx L sx (x3 + (1 : Int32))).bind fun v154_ =>
  (q_sx L sx (x3 + (2 : Int32))).bind fun v155_ =>
  q_on h x1 5 (
  bi (f_X5_best f x1 v154_ v155_ h) fun v158_ h157_ =>
  (q_sx L sx (x3 + (1 : Int32))).bind fun v159_ =>
  (q_sx L sx (x3 + (2 : Int32))).bind fun v160_ =>
  q_on h157_ x2 6 (
  bi (f_X6_best f x2 v159_ v160_ h157_) fun v163_ h162_ =>
  if v158_ = v163_ then
  (b_L_law_1050 f L sx k18 x1 x2 x3 h162_)
  else
  (q_one (0 : Int32))))), 
  ((q_sx L sx (x3 + (1 : Int32))).bind fun v164_ =>
  (q_sx L sx (x3 + (2 : Int32))).bind fun v165_ =>
  (q_sx L sx (x3 + (3 : Int32))).bind fun v166_ =>
  q_on h x1 5 (
  bi (f_X5_corner f x1 v164_ v165_ v166_ h) fun v169_ h168_ =>
  (q_sx L sx (x3 + (1 : Int32))).bind fun v170_ =>
  (q_sx L sx (x3 + (2 : Int32))).bind fun v171_ =>
  (q_sx L sx (x3 + (3 : Int32))).bind fun v172_ =>
  q_on h168_ x2 6 (
  bi (f_X6_corner f x2 v170_ v171_ v172_ h168_) fun v175_ h174_ =>
  if v169_ = v175_ then
  (b_L_law_1050 f L sx k18 x1 x2 x3 h174_)
  else
  (q_one (0 : Int32))))), 
  ((q_sx L sx (x3 + (1 : Int32))).bind fun v176_ =>
  (q_sx L sx (x3 + (2 : Int32))).bind fun v177_ =>
  q_on h x1 5 (
  bi (f_X5_bestCorner f x1 v176_ v177_ h) fun v180_ h179_ =>
  (q_sx L sx (x3 + (1 : Int32))).bind fun v181_ =>
  (q_sx L sx (x3 + (2 : Int32))).bind fun v182_ =>
  q_on h179_ x2 6 (
  bi (f_X6_bestCorner f x2 v181_ v182_ h179_) fun v185_ h184_ =>
  if v180_ = v185_ then
  (b_L_law_1050 f L sx k18 x1 x2 x3 h184_)
  else
  (q_one (0 : Int32))))), 
  ((q_sx L sx (x3 + (1 : Int32))).bind fun v186_ =>
  q_on h x1 5 (
  bi (f_X5_spades f x1 v186_ h) fun v189_ h188_ =>
  (q_sx L sx (x3 + (1 : Int32))).bind fun v190_ =>
  q_on h188_ x2 6 (
  bi (f_X6_spades f x2 v190_ h188_) fun v193_ h192_ =>
  if v189_ = v193_ then
  (b_L_law_1050 f L sx k18 x1 x2 x3 h192_)
  else
  (q_one (0 : Int32))))), 
  ((q_sx L sx (x3 + (1 : Int32))).bind fun v194_ =>
  q_on h x1 5 (
  bi (f_X5_found f x1 v194_ h) fun v197_ h196_ =>
  (q_sx L sx (x3 + (1 : Int32))).bind fun v198_ =>
  q_on h196_ x2 6 (
  bi (f_X6_found f x2 v198_ h196_) fun v201_ h200_ =>
  if v197_ = v201_ then
  (b_L_law_1050 f L sx k18 x1 x2 x3 h200_)
  else
  (q_one (0 : Int32))))), 
  ((q_sx L sx (x3 + (1 : Int32))).bind fun v202_ =>
  (q_sx L sx (x3 + (2 : Int32))).bind fun v203_ =>
  (q_sx L sx (x3 + (3 : Int32))).bind fun v204_ =>
  if v204_ = 0 then
  (b_L_law_864 f L sx k18 x1 x2 x3 x1 v202_ v203_ (0 : Int32) h)
  else
  (b_L_law_864 f L sx k18 x1 x2 x3 x1 v202_ v203_ (1 : Int32) h)), 
  (q_on h x1 5 (
  bi (f_X5_forget f x1 h) fun v207_ h206_ =>
  q_on h206_ x2 6 (
  bi (f_X6_forget f x2 h206_) fun v210_ h209_ =>
  if v207_ = v210_ then
  (b_L_law_1050 f L sx k18 x1 x2 x3 h209_)
  else
  (q_one (0 : Int32))))), 
  ((q_sx L sx (x3 + (1 : Int32))).bind fun v211_ =>
  (q_sx L sx (x3 + (2 : Int32))).bind fun v212_ =>
  q_on h x1 5 (
  bi (f_X5_saying f x1 v211_ v212_ h) fun v215_ h214_ =>
  (q_sx L sx (x3 + (1 : Int32))).bind fun v216_ =>
  (q_sx L sx (x3 + (2 : Int32))).bind fun v217_ =>
  q_on h214_ x2 6 (
  bi (f_X6_saying f x2 v216_ v217_ h214_) fun v220_ h219_ =>
  if v215_ = v220_ then
  (b_L_law_1050 f L sx k18 x1 x2 x3 h219_)
  else
  (q_one (0 : Int32))))), 
  (q_on h x1 5 (
  bi (f_X5_loudest f x1 h) fun v223_ h222_ =>
  q_on h222_ x2 6 (
  bi (f_X6_loudest f x2 h222_) fun v226_ h225_ =>
  if v223_ = v226_ then
  (b_L_law_1050 f L sx k18 x1 x2 x3 h225_)
  else
  (q_one (0 : Int32))))), 
  ((q_sx L sx (x3 + (1 : Int32))).bind fun v227_ =>
  q_on h x1 5 (
  bi (f_X5_hunt f x1 v227_ h) fun v230_ h229_ =>
  (q_sx L sx (x3 + (1 : Int32))).bind fun v231_ =>
  q_on h229_ x2 6 (
  bi (f_X6_hunt f x2 v231_ h229_) fun v234_ h233_ =>
  if v230_ = v234_ then
  (b_L_law_1050 f L sx k18 x1 x2 x3 h233_)
  else
  (q_one (0 : Int32))))), 
  ((q_sx L sx (x3 + (1 : Int32))).bind fun v235_ =>
  q_on h x1 5 (
  bi (f_X5_seed f x1 v235_ h) fun v238_ h237_ =>
  (q_sx L sx (x3 + (1 : Int32))).bind fun v239_ =>
  q_on h237_ x2 6 (
  bi (f_X6_seed f x2 v239_ h237_) fun v242_ h241_ =>
  if v238_ = v242_ then
  (b_L_law_1050 f L sx k18 x1 x2 x3 h241_)
  else
  (q_one (0 : Int32))))), 
  ((q_sx L sx (x3 + (1 : Int32))).bind fun v243_ =>
  q_on h x1 5 (
  bi (f_X5_keep f x1 v243_ h) fun v246_ h245_ =>
  (q_sx L sx (x3 + (1 : Int32))).bind fun v247_ =>
  q_on h245_ x2 6 (
  bi (f_X6_keep f x2 v247_ h245_) fun v250_ h249_ =>
  if v246_ = v250_ then
  (b_L_law_1050 f L sx k18 x1 x2 x3 h249_)
  else
  (q_one (0 : Int32))))), 
  ((q_sx L sx (x3 + (1 : Int32))).bind fun v251_ =>
  q_on h x1 5 (
  bi (f_X5_goBack f x1 v251_ h) fun v254_ h253_ =>
  (q_sx L sx (x3 + (1 : Int32))).bind fun v255_ =>
  q_on h253_ x2 6 (
  bi (f_X6_goBack f x2 v255_ h253_) fun v258_ h257_ =>
  if v254_ = v258_ then
  (b_L_law_1050 f L sx k18 x1 x2 x3 h257_)
  else
  (q_one (0 : Int32)))))] (b_L_law_1050 f L sx k18 x1 x2 x3 h))
def l_L_law_18 (f L : Nat) (sx : Nat → Int32)  : Nat → Nat → Nat → Int32 → Hp → Option (Unit)
  | 0, _, _, _, _ => none
  | n + 1, x1, x2, x3, h => b_L_law_18 f L sx  (l_L_law_18 f L sx  n) x1 x2 x3 h
def b_L_law_0 (f L : Nat) (sx : Nat → Int32)   (h : Hp) : Option Unit :=
  bn (q_new h 6) fun a1_ h2_ =>
  (f_X5_init f a1_ h2_).bind fun h3_ =>
  bn (q_new h3_ 7) fun a4_ h5_ =>
  (f_X6_init f a4_ h5_).bind fun h6_ =>
  l_L_law_18 f L sx f a1_ a4_ (0 : Int32) h6_
set_option maxRecDepth 100000 in
set_option maxHeartbeats 4000000 in
theorem t_L_law_1050 {X : Cx} {bS L : Nat} {sx : Nat → Int32} (o : Ok X RL cL_law 4 12 446 87 2729 (some .boolean)) (lo : LO X bS L sx) (f : Nat) {k18 : Nat → Nat → Int32 → Hp → Option (Unit)} (hk18 : ∀ (x1 : Nat) (x2 : Nat) (x3 : Int32) (h : Hp), Sim X (z_ZL X bS) 87 2729 18 [(0, .ref bS), (1, rf (xG X) x1), (2, rf (xG X) x2), (3, .int x3)] [] h (k18 x1 x2 x3 h)) (x1 : Nat) (x2 : Nat) (x3 : Int32) (h : Hp) : Sim X (z_ZL X bS) 87 2729 1050 [(0, .ref bS), (1, rf (xG X) x1), (2, rf (xG X) x2), (3, .int x3)] [] h (b_L_law_1050 f L sx k18 x1 x2 x3 h) := by
  unfold b_L_law_1050
  refine s_iinc o 3 rfl (v := (5 : Int32)) (by decide) [1, 2, 3, 0] (lv' := fun v1_ => [(0, .ref bS), (1, rf (xG X) x1), (2, rf (xG X) x2), (3, .int v1_)]) (fun _ => rfl) dL_law_1050 (by decide) (q := 1053) rfl (fun v1_ => ?_)
  refine s_goto o (tgt := 18) dL_law_1053 (by decide) ?_
  exact s_sub [0, 1, 2, 3] rfl (hk18 x1 x2 v1_ h)
set_option maxRecDepth 100000 in
set_option maxHeartbeats 4000000 in
theorem t_L_law_891 {X : Cx} {bS L : Nat} {sx : Nat → Int32} (o : Ok X RL cL_law 4 12 446 87 2729 (some .boolean)) (lo : LO X bS L sx) (f : Nat) {k18 : Nat → Nat → Int32 → Hp → Option (Unit)} (hk18 : ∀ (x1 : Nat) (x2 : Nat) (x3 : Int32) (h : Hp), Sim X (z_ZL X bS) 87 2729 18 [(0, .ref bS), (1, rf (xG X) x1), (2, rf (xG X) x2), (3, .int x3)] [] h (k18 x1 x2 x3 h)) (x1 : Nat) (x2 : Nat) (x3 : Int32) (y0 : Int32) (y1 : Nat) (y2 : Int32) (y3 : Int32) (y4 : Int32) (h : Hp) : Sim X (z_ZL X bS) 87 2729 891 [(0, .ref bS), (1, rf (xG X) x1), (2, rf (xG X) x2), (3, .int x3)] [.int y4, .int y3, .int y2, rf (xG X) y1, .int y0] h (b_L_law_891 f L sx k18 x1 x2 x3 y0 y1 y2 y3 y4 h) := by
  unfold b_L_law_891
  refine s_on (fun hk1_ => ?_)
  refine s_bi (fun r0 hr0 => runV o hk1_ cv_L_105 (c_X6_say (xG X) f y1 y2 y3 y4 h (xl X) r0 hr0) ⟨Nat.le_of_ble_eq_true rfl, Nat.le_of_ble_eq_true rfl⟩ rfl rfl (Nat.le_of_ble_eq_true rfl) dL_law_891 ⟨Nat.le_of_ble_eq_true rfl, Nat.le_of_ble_eq_true rfl⟩) (q := 894) rfl (cs' := 87) rfl (sl' := 2729) rfl (fun v3_ h2_ => ?_)
  refine s_ic_eq o (tgt := 1050) dL_law_894 (by decide) (q := 897) rfl ?_ ?_
  · exact s_sub [0, 1, 2, 3] rfl (t_L_law_1050 o lo f hk18 x1 x2 x3 h2_)
  · refine s_iconst o dL_law_897 (v := (0 : Int32)) (by decide) (q := 898) rfl ?_
    exact s_lawret o lo dL_law_898
set_option maxRecDepth 100000 in
set_option maxHeartbeats 4000000 in
theorem t_L_law_864 {X : Cx} {bS L : Nat} {sx : Nat → Int32} (o : Ok X RL cL_law 4 12 446 87 2729 (some .boolean)) (lo : LO X bS L sx) (f : Nat) {k18 : Nat → Nat → Int32 → Hp → Option (Unit)} (hk18 : ∀ (x1 : Nat) (x2 : Nat) (x3 : Int32) (h : Hp), Sim X (z_ZL X bS) 87 2729 18 [(0, .ref bS), (1, rf (xG X) x1), (2, rf (xG X) x2), (3, .int x3)] [] h (k18 x1 x2 x3 h)) (x1 : Nat) (x2 : Nat) (x3 : Int32) (y0 : Nat) (y1 : Int32) (y2 : Int32) (y3 : Int32) (h : Hp) : Sim X (z_ZL X bS) 87 2729 864 [(0, .ref bS), (1, rf (xG X) x1), (2, rf (xG X) x2), (3, .int x3)] [.int y3, .int y2, .int y1, rf (xG X) y0] h (b_L_law_864 f L sx k18 x1 x2 x3 y0 y1 y2 y3 h) := by
  unfold b_L_law_864
  refine s_on (fun hk1_ => ?_)
  refine s_bi (fun r0 hr0 => runV o hk1_ cv_L_101 (c_X5_say (xG X) f y0 y1 y2 y3 h (xl X) r0 hr0) ⟨Nat.le_of_ble_eq_true rfl, Nat.le_of_ble_eq_true rfl⟩ rfl rfl (Nat.le_of_ble_eq_true rfl) dL_law_864 ⟨Nat.le_of_ble_eq_true rfl, Nat.le_of_ble_eq_true rfl⟩) (q := 867) rfl (cs' := 87) rfl (sl' := 2729) rfl (fun v3_ h2_ => ?_)
  refine s_aload_n o 2 rfl dL_law_867 (q := 868) rfl ?_
  refine s_aload_n o 0 rfl dL_law_868 (q := 869) rfl ?_
  refine s_iload_n o 3 rfl dL_law_869 (q := 870) rfl ?_
  refine s_iconst o dL_law_870 (v := (1 : Int32)) (by decide) (q := 871) rfl ?_
  refine s_iadd o dL_law_871 (q := 872) rfl ?_
  refine s_sld o lo dL_law_872 (q := 873) rfl (fun v4_ => ?_)
  refine s_aload_n o 0 rfl dL_law_873 (q := 874) rfl ?_
  refine s_iload_n o 3 rfl dL_law_874 (q := 875) rfl ?_
  refine s_iconst o dL_law_875 (v := (2 : Int32)) (by decide) (q := 876) rfl ?_
  refine s_iadd o dL_law_876 (q := 877) rfl ?_
  refine s_sld o lo dL_law_877 (q := 878) rfl (fun v5_ => ?_)
  refine s_aload_n o 0 rfl dL_law_878 (q := 879) rfl ?_
  refine s_iload_n o 3 rfl dL_law_879 (q := 880) rfl ?_
  refine s_iconst o dL_law_880 (v := (3 : Int32)) (by decide) (q := 881) rfl ?_
  refine s_iadd o dL_law_881 (q := 882) rfl ?_
  refine s_sld o lo dL_law_882 (q := 883) rfl (fun v6_ => ?_)
  refine s_if_eq o (tgt := 890) dL_law_883 (by decide) (q := 886) rfl ?_ ?_
  · refine s_iconst o dL_law_890 (v := (0 : Int32)) (by decide) (q := 891) rfl ?_
    exact s_sub [0, 1, 2, 3] rfl (t_L_law_891 o lo f hk18 x1 x2 x3 v3_ x2 v4_ v5_ (0 : Int32) h2_)
  · refine s_iconst o dL_law_886 (v := (1 : Int32)) (by decide) (q := 887) rfl ?_
    refine s_goto o (tgt := 891) dL_law_887 (by decide) ?_
    exact s_sub [0, 1, 2, 3] rfl (t_L_law_891 o lo f hk18 x1 x2 x3 v3_ x2 v4_ v5_ (1 : Int32) h2_)
set_option maxRecDepth 100000 in
set_option maxHeartbeats 4000000 in
theorem t_L_law_18 {X : Cx} {bS L : Nat} {sx : Nat → Int32} (o : Ok X RL cL_law 4 12 446 87 2729 (some .boolean)) (lo : LO X bS L sx) (f : Nat) {k18 : Nat → Nat → Int32 → Hp → Option (Unit)} (hk18 : ∀ (x1 : Nat) (x2 : Nat) (x3 : Int32) (h : Hp), Sim X (z_ZL X bS) 87 2729 18 [(0, .ref bS), (1, rf (xG X) x1), (2, rf (xG X) x2), (3, .int x3)] [] h (k18 x1 x2 x3 h)) (x1 : Nat) (x2 : Nat) (x3 : Int32) (h : Hp) : Sim X (z_ZL X bS) 87 2729 18 [(0, .ref bS), (1, rf (xG X) x1), (2, rf (xG X) x2), (3, .int x3)] [] h (b_L_law_18 f L sx k18 x1 x2 x3 h) := by
  unfold b_L_law_18
  refine s_iload_n o 3 rfl dL_law_18 (q := 19) rfl ?_
  refine s_aload_n o 0 rfl dL_law_19 (q := 20) rfl ?_
  refine s_slen o lo dL_law_20 (q := 21) rfl ?_
  refine s_iconst o dL_law_21 (v := (5 : Int32)) (by decide) (q := 22) rfl ?_
  refine s_isub o dL_law_22 (q := 23) rfl ?_
  refine s_ic_gt o (tgt := 1056) dL_law_23 (by decide) (q := 26) rfl ?_ ?_
  · refine s_iconst o dL_law_1056 (v := (1 : Int32)) (by decide) (q := 1057) rfl ?_
    exact s_lawret o lo dL_law_1057
  · refine s_aload_n o 0 rfl dL_law_26 (q := 27) rfl ?_
    refine s_iload_n o 3 rfl dL_law_27 (q := 28) rfl ?_
    refine s_sld o lo dL_law_28 (q := 29) rfl (fun v1_ => ?_)
    refine s_bipush o dL_law_29 (v := (31 : Int32)) (by decide) (q := 31) rfl ?_
    refine s_iand o dL_law_31 (q := 32) rfl ?_
    refine s_sw o dL_law_32 rfl (tgD := 1050) (by decide) ?_ (⟨⟨160, by decide, ?_⟩, ⟨223, by decide, ?_⟩, ⟨236, by decide, ?_⟩, ⟨249, by decide, ?_⟩, ⟨272, by decide, ?_⟩, ⟨305, by decide, ?_⟩, ⟨348, by decide, ?_⟩, ⟨381, by decide, ?_⟩, ⟨414, by decide, ?_⟩, ⟨457, by decide, ?_⟩, ⟨510, by decide, ?_⟩, ⟨553, by decide, ?_⟩, ⟨576, by decide, ?_⟩, ⟨609, by decide, ?_⟩, ⟨642, by decide, ?_⟩, ⟨685, by decide, ?_⟩, ⟨718, by decide, ?_⟩, ⟨761, by decide, ?_⟩, ⟨794, by decide, ?_⟩, ⟨817, by decide, ?_⟩, ⟨840, by decide, ?_⟩, ⟨899, by decide, ?_⟩, ⟨912, by decide, ?_⟩, ⟨945, by decide, ?_⟩, ⟨958, by decide, ?_⟩, ⟨981, by decide, ?_⟩, ⟨1004, by decide, ?_⟩, ⟨1027, by decide, ?_⟩, trivial⟩)
    · exact s_sub [0, 1, 2, 3] rfl (t_L_law_1050 o lo f hk18 x1 x2 x3 h)
    · refine s_aload_n o 1 rfl dL_law_160 (q := 161) rfl ?_
      refine s_aload_n o 0 rfl dL_law_161 (q := 162) rfl ?_
      refine s_iload_n o 3 rfl dL_law_162 (q := 163) rfl ?_
      refine s_iconst o dL_law_163 (v := (1 : Int32)) (by decide) (q := 164) rfl ?_
      refine s_iadd o dL_law_164 (q := 165) rfl ?_
      refine s_sld o lo dL_law_165 (q := 166) rfl (fun v2_ => ?_)
      refine s_aload_n o 0 rfl dL_law_166 (q := 167) rfl ?_
      refine s_iload_n o 3 rfl dL_law_167 (q := 168) rfl ?_
      refine s_iconst o dL_law_168 (v := (2 : Int32)) (by decide) (q := 169) rfl ?_
      refine s_iadd o dL_law_169 (q := 170) rfl ?_
      refine s_sld o lo dL_law_170 (q := 171) rfl (fun v3_ => ?_)
      refine s_i2l o dL_law_171 (q := 172) rfl ?_
      refine s_bipush o dL_law_172 (v := (32 : Int32)) (by decide) (q := 174) rfl ?_
      refine s_lshl o dL_law_174 (q := 175) rfl ?_
      refine s_aload_n o 0 rfl dL_law_175 (q := 176) rfl ?_
      refine s_iload_n o 3 rfl dL_law_176 (q := 177) rfl ?_
      refine s_iconst o dL_law_177 (v := (3 : Int32)) (by decide) (q := 178) rfl ?_
      refine s_iadd o dL_law_178 (q := 179) rfl ?_
      refine s_sld o lo dL_law_179 (q := 180) rfl (fun v4_ => ?_)
      refine s_i2l o dL_law_180 (q := 181) rfl ?_
      refine s_ldc2 o kl_L_13 dL_law_181 (q := 184) rfl ?_
      refine s_land o dL_law_184 (q := 185) rfl ?_
      refine s_lor o dL_law_185 (q := 186) rfl ?_
      refine s_on (fun hk5_ => ?_)
      refine s_bi (fun r0 hr0 => runV o hk5_ cv_L_15 (c_X5_feed (xG X) f x1 v2_ ((v3_.toInt64 <<< ((32 : Int32).toInt64 &&& 63)) ||| (v4_.toInt64 &&& (4294967295 : Int64))) h (xl X) r0 hr0) ⟨Nat.le_of_ble_eq_true rfl, Nat.le_of_ble_eq_true rfl⟩ rfl rfl (Nat.le_of_ble_eq_true rfl) dL_law_186 ⟨Nat.le_of_ble_eq_true rfl, Nat.le_of_ble_eq_true rfl⟩) (q := 189) rfl (cs' := 87) rfl (sl' := 2729) rfl (fun v7_ h6_ => ?_)
      refine s_aload_n o 2 rfl dL_law_189 (q := 190) rfl ?_
      refine s_aload_n o 0 rfl dL_law_190 (q := 191) rfl ?_
      refine s_iload_n o 3 rfl dL_law_191 (q := 192) rfl ?_
      refine s_iconst o dL_law_192 (v := (1 : Int32)) (by decide) (q := 193) rfl ?_
      refine s_iadd o dL_law_193 (q := 194) rfl ?_
      refine s_sld o lo dL_law_194 (q := 195) rfl (fun v8_ => ?_)
      refine s_aload_n o 0 rfl dL_law_195 (q := 196) rfl ?_
      refine s_iload_n o 3 rfl dL_law_196 (q := 197) rfl ?_
      refine s_iconst o dL_law_197 (v := (2 : Int32)) (by decide) (q := 198) rfl ?_
      refine s_iadd o dL_law_198 (q := 199) rfl ?_
      refine s_sld o lo dL_law_199 (q := 200) rfl (fun v9_ => ?_)
      refine s_i2l o dL_law_200 (q := 201) rfl ?_
      refine s_bipush o dL_law_201 (v := (32 : Int32)) (by decide) (q := 203) rfl ?_
      refine s_lshl o dL_law_203 (q := 204) rfl ?_
      refine s_aload_n o 0 rfl dL_law_204 (q := 205) rfl ?_
      refine s_iload_n o 3 rfl dL_law_205 (q := 206) rfl ?_
      refine s_iconst o dL_law_206 (v := (3 : Int32)) (by decide) (q := 207) rfl ?_
      refine s_iadd o dL_law_207 (q := 208) rfl ?_
      refine s_sld o lo dL_law_208 (q := 209) rfl (fun v10_ => ?_)
      refine s_i2l o dL_law_209 (q := 210) rfl ?_
      refine s_ldc2 o kl_L_13 dL_law_210 (q := 213) rfl ?_
      refine s_land o dL_law_213 (q := 214) rfl ?_
      refine s_lor o dL_law_214 (q := 215) rfl ?_
      refine s_on (fun hk11_ => ?_)
      refine s_bi (fun r0 hr0 => runV o hk11_ cv_L_19 (c_X6_feed (xG X) f x2 v8_ ((v9_.toInt64 <<< ((32 : Int32).toInt64 &&& 63)) ||| (v10_.toInt64 &&& (4294967295 : Int64))) h6_ (xl X) r0 hr0) ⟨Nat.le_of_ble_eq_true rfl, Nat.le_of_ble_eq_true rfl⟩ rfl rfl (Nat.le_of_ble_eq_true rfl) dL_law_215 ⟨Nat.le_of_ble_eq_true rfl, Nat.le_of_ble_eq_true rfl⟩) (q := 218) rfl (cs' := 87) rfl (sl' := 2729) rfl (fun v13_ h12_ => ?_)
      refine s_ic_eq o (tgt := 1050) dL_law_218 (by decide) (q := 221) rfl ?_ ?_
      · exact s_sub [0, 1, 2, 3] rfl (t_L_law_1050 o lo f hk18 x1 x2 x3 h12_)
      · refine s_iconst o dL_law_221 (v := (0 : Int32)) (by decide) (q := 222) rfl ?_
        exact s_lawret o lo dL_law_222
    · refine s_aload_n o 1 rfl dL_law_223 (q := 224) rfl ?_
      refine s_on (fun hk14_ => ?_)
      refine s_bi (fun r0 hr0 => runV o hk14_ cv_L_20 (c_X5_island (xG X) f x1 h (xl X) r0 hr0) ⟨Nat.le_of_ble_eq_true rfl, Nat.le_of_ble_eq_true rfl⟩ rfl rfl (Nat.le_of_ble_eq_true rfl) dL_law_224 ⟨Nat.le_of_ble_eq_true rfl, Nat.le_of_ble_eq_true rfl⟩) (q := 227) rfl (cs' := 87) rfl (sl' := 2729) rfl (fun v16_ h15_ => ?_)
      refine s_aload_n o 2 rfl dL_law_227 (q := 228) rfl ?_
      refine s_on (fun hk17_ => ?_)
      refine s_bi (fun r0 hr0 => runV o hk17_ cv_L_24 (c_X6_island (xG X) f x2 h15_ (xl X) r0 hr0) ⟨Nat.le_of_ble_eq_true rfl, Nat.le_of_ble_eq_true rfl⟩ rfl rfl (Nat.le_of_ble_eq_true rfl) dL_law_228 ⟨Nat.le_of_ble_eq_true rfl, Nat.le_of_ble_eq_true rfl⟩) (q := 231) rfl (cs' := 87) rfl (sl' := 2729) rfl (fun v19_ h18_ => ?_)
      refine s_ic_eq o (tgt := 1050) dL_law_231 (by decide) (q := 234) rfl ?_ ?_
      · exact s_sub [0, 1, 2, 3] rfl (t_L_law_1050 o lo f hk18 x1 x2 x3 h18_)
      · refine s_iconst o dL_law_234 (v := (0 : Int32)) (by decide) (q := 235) rfl ?_
        exact s_lawret o lo dL_law_235
    · refine s_aload_n o 1 rfl dL_law_236 (q := 237) rfl ?_
      refine s_on (fun hk20_ => ?_)
      refine s_bi (fun r0 hr0 => runV o hk20_ cv_L_25 (c_X5_fault (xG X) f x1 h (xl X) r0 hr0) ⟨Nat.le_of_ble_eq_true rfl, Nat.le_of_ble_eq_true rfl⟩ rfl rfl (Nat.le_of_ble_eq_true rfl) dL_law_237 ⟨Nat.le_of_ble_eq_true rfl, Nat.le_of_ble_eq_true rfl⟩) (q := 240) rfl (cs' := 87) rfl (sl' := 2729) rfl (fun v22_ h21_ => ?_)
      refine s_aload_n o 2 rfl dL_law_240 (q := 241) rfl ?_
      refine s_on (fun hk23_ => ?_)
      refine s_bi (fun r0 hr0 => runV o hk23_ cv_L_28 (c_X6_fault (xG X) f x2 h21_ (xl X) r0 hr0) ⟨Nat.le_of_ble_eq_true rfl, Nat.le_of_ble_eq_true rfl⟩ rfl rfl (Nat.le_of_ble_eq_true rfl) dL_law_241 ⟨Nat.le_of_ble_eq_true rfl, Nat.le_of_ble_eq_true rfl⟩) (q := 244) rfl (cs' := 87) rfl (sl' := 2729) rfl (fun v25_ h24_ => ?_)
      refine s_ic_eq o (tgt := 1050) dL_law_244 (by decide) (q := 247) rfl ?_ ?_
      · exact s_sub [0, 1, 2, 3] rfl (t_L_law_1050 o lo f hk18 x1 x2 x3 h24_)
      · refine s_iconst o dL_law_247 (v := (0 : Int32)) (by decide) (q := 248) rfl ?_
        exact s_lawret o lo dL_law_248
    · refine s_aload_n o 1 rfl dL_law_249 (q := 250) rfl ?_
      refine s_aload_n o 0 rfl dL_law_250 (q := 251) rfl ?_
      refine s_iload_n o 3 rfl dL_law_251 (q := 252) rfl ?_
      refine s_iconst o dL_law_252 (v := (1 : Int32)) (by decide) (q := 253) rfl ?_
      refine s_iadd o dL_law_253 (q := 254) rfl ?_
      refine s_sld o lo dL_law_254 (q := 255) rfl (fun v26_ => ?_)
      refine s_on (fun hk27_ => ?_)
      refine s_bi (fun r0 hr0 => runV o hk27_ cv_L_29 (c_X5_told (xG X) f x1 v26_ h (xl X) r0 hr0) ⟨Nat.le_of_ble_eq_true rfl, Nat.le_of_ble_eq_true rfl⟩ rfl rfl (Nat.le_of_ble_eq_true rfl) dL_law_255 ⟨Nat.le_of_ble_eq_true rfl, Nat.le_of_ble_eq_true rfl⟩) (q := 258) rfl (cs' := 87) rfl (sl' := 2729) rfl (fun v29_ h28_ => ?_)
      refine s_aload_n o 2 rfl dL_law_258 (q := 259) rfl ?_
      refine s_aload_n o 0 rfl dL_law_259 (q := 260) rfl ?_
      refine s_iload_n o 3 rfl dL_law_260 (q := 261) rfl ?_
      refine s_iconst o dL_law_261 (v := (1 : Int32)) (by decide) (q := 262) rfl ?_
      refine s_iadd o dL_law_262 (q := 263) rfl ?_
      refine s_sld o lo dL_law_263 (q := 264) rfl (fun v30_ => ?_)
      refine s_on (fun hk31_ => ?_)
      refine s_bi (fun r0 hr0 => runV o hk31_ cv_L_33 (c_X6_told (xG X) f x2 v30_ h28_ (xl X) r0 hr0) ⟨Nat.le_of_ble_eq_true rfl, Nat.le_of_ble_eq_true rfl⟩ rfl rfl (Nat.le_of_ble_eq_true rfl) dL_law_264 ⟨Nat.le_of_ble_eq_true rfl, Nat.le_of_ble_eq_true rfl⟩) (q := 267) rfl (cs' := 87) rfl (sl' := 2729) rfl (fun v33_ h32_ => ?_)
      refine s_ic_eq o (tgt := 1050) dL_law_267 (by decide) (q := 270) rfl ?_ ?_
      · exact s_sub [0, 1, 2, 3] rfl (t_L_law_1050 o lo f hk18 x1 x2 x3 h32_)
      · refine s_iconst o dL_law_270 (v := (0 : Int32)) (by decide) (q := 271) rfl ?_
        exact s_lawret o lo dL_law_271
    · refine s_aload_n o 1 rfl dL_law_272 (q := 273) rfl ?_
      refine s_aload_n o 0 rfl dL_law_273 (q := 274) rfl ?_
      refine s_iload_n o 3 rfl dL_law_274 (q := 275) rfl ?_
      refine s_iconst o dL_law_275 (v := (1 : Int32)) (by decide) (q := 276) rfl ?_
      refine s_iadd o dL_law_276 (q := 277) rfl ?_
      refine s_sld o lo dL_law_277 (q := 278) rfl (fun v34_ => ?_)
      refine s_aload_n o 0 rfl dL_law_278 (q := 279) rfl ?_
      refine s_iload_n o 3 rfl dL_law_279 (q := 280) rfl ?_
      refine s_iconst o dL_law_280 (v := (2 : Int32)) (by decide) (q := 281) rfl ?_
      refine s_iadd o dL_law_281 (q := 282) rfl ?_
      refine s_sld o lo dL_law_282 (q := 283) rfl (fun v35_ => ?_)
      refine s_on (fun hk36_ => ?_)
      refine s_bi (fun r0 hr0 => runV o hk36_ cv_L_34 (c_X5_mark (xG X) f x1 v34_ v35_ h (xl X) r0 hr0) ⟨Nat.le_of_ble_eq_true rfl, Nat.le_of_ble_eq_true rfl⟩ rfl rfl (Nat.le_of_ble_eq_true rfl) dL_law_283 ⟨Nat.le_of_ble_eq_true rfl, Nat.le_of_ble_eq_true rfl⟩) (q := 286) rfl (cs' := 87) rfl (sl' := 2729) rfl (fun v38_ h37_ => ?_)
      refine s_aload_n o 2 rfl dL_law_286 (q := 287) rfl ?_
      refine s_aload_n o 0 rfl dL_law_287 (q := 288) rfl ?_
      refine s_iload_n o 3 rfl dL_law_288 (q := 289) rfl ?_
      refine s_iconst o dL_law_289 (v := (1 : Int32)) (by decide) (q := 290) rfl ?_
      refine s_iadd o dL_law_290 (q := 291) rfl ?_
      refine s_sld o lo dL_law_291 (q := 292) rfl (fun v39_ => ?_)
      refine s_aload_n o 0 rfl dL_law_292 (q := 293) rfl ?_
      refine s_iload_n o 3 rfl dL_law_293 (q := 294) rfl ?_
      refine s_iconst o dL_law_294 (v := (2 : Int32)) (by decide) (q := 295) rfl ?_
      refine s_iadd o dL_law_295 (q := 296) rfl ?_
      refine s_sld o lo dL_law_296 (q := 297) rfl (fun v40_ => ?_)
      refine s_on (fun hk41_ => ?_)
      refine s_bi (fun r0 hr0 => runV o hk41_ cv_L_38 (c_X6_mark (xG X) f x2 v39_ v40_ h37_ (xl X) r0 hr0) ⟨Nat.le_of_ble_eq_true rfl, Nat.le_of_ble_eq_true rfl⟩ rfl rfl (Nat.le_of_ble_eq_true rfl) dL_law_297 ⟨Nat.le_of_ble_eq_true rfl, Nat.le_of_ble_eq_true rfl⟩) (q := 300) rfl (cs' := 87) rfl (sl' := 2729) rfl (fun v43_ h42_ => ?_)
      refine s_ic_eq o (tgt := 1050) dL_law_300 (by decide) (q := 303) rfl ?_ ?_
      · exact s_sub [0, 1, 2, 3] rfl (t_L_law_1050 o lo f hk18 x1 x2 x3 h42_)
      · refine s_iconst o dL_law_303 (v := (0 : Int32)) (by decide) (q := 304) rfl ?_
        exact s_lawret o lo dL_law_304
    · refine s_aload_n o 1 rfl dL_law_305 (q := 306) rfl ?_
      refine s_aload_n o 0 rfl dL_law_306 (q := 307) rfl ?_
      refine s_iload_n o 3 rfl dL_law_307 (q := 308) rfl ?_
      refine s_iconst o dL_law_308 (v := (1 : Int32)) (by decide) (q := 309) rfl ?_
      refine s_iadd o dL_law_309 (q := 310) rfl ?_
      refine s_sld o lo dL_law_310 (q := 311) rfl (fun v44_ => ?_)
      refine s_aload_n o 0 rfl dL_law_311 (q := 312) rfl ?_
      refine s_iload_n o 3 rfl dL_law_312 (q := 313) rfl ?_
      refine s_iconst o dL_law_313 (v := (2 : Int32)) (by decide) (q := 314) rfl ?_
      refine s_iadd o dL_law_314 (q := 315) rfl ?_
      refine s_sld o lo dL_law_315 (q := 316) rfl (fun v45_ => ?_)
      refine s_aload_n o 0 rfl dL_law_316 (q := 317) rfl ?_
      refine s_iload_n o 3 rfl dL_law_317 (q := 318) rfl ?_
      refine s_iconst o dL_law_318 (v := (3 : Int32)) (by decide) (q := 319) rfl ?_
      refine s_iadd o dL_law_319 (q := 320) rfl ?_
      refine s_sld o lo dL_law_320 (q := 321) rfl (fun v46_ => ?_)
      refine s_on (fun hk47_ => ?_)
      refine s_bi (fun r0 hr0 => runV o hk47_ cv_L_39 (c_X5_map (xG X) f x1 v44_ v45_ v46_ h (xl X) r0 hr0) ⟨Nat.le_of_ble_eq_true rfl, Nat.le_of_ble_eq_true rfl⟩ rfl rfl (Nat.le_of_ble_eq_true rfl) dL_law_321 ⟨Nat.le_of_ble_eq_true rfl, Nat.le_of_ble_eq_true rfl⟩) (q := 324) rfl (cs' := 87) rfl (sl' := 2729) rfl (fun v49_ h48_ => ?_)
      refine s_aload_n o 2 rfl dL_law_324 (q := 325) rfl ?_
      refine s_aload_n o 0 rfl dL_law_325 (q := 326) rfl ?_
      refine s_iload_n o 3 rfl dL_law_326 (q := 327) rfl ?_
      refine s_iconst o dL_law_327 (v := (1 : Int32)) (by decide) (q := 328) rfl ?_
      refine s_iadd o dL_law_328 (q := 329) rfl ?_
      refine s_sld o lo dL_law_329 (q := 330) rfl (fun v50_ => ?_)
      refine s_aload_n o 0 rfl dL_law_330 (q := 331) rfl ?_
      refine s_iload_n o 3 rfl dL_law_331 (q := 332) rfl ?_
      refine s_iconst o dL_law_332 (v := (2 : Int32)) (by decide) (q := 333) rfl ?_
      refine s_iadd o dL_law_333 (q := 334) rfl ?_
      refine s_sld o lo dL_law_334 (q := 335) rfl (fun v51_ => ?_)
      refine s_aload_n o 0 rfl dL_law_335 (q := 336) rfl ?_
      refine s_iload_n o 3 rfl dL_law_336 (q := 337) rfl ?_
      refine s_iconst o dL_law_337 (v := (3 : Int32)) (by decide) (q := 338) rfl ?_
      refine s_iadd o dL_law_338 (q := 339) rfl ?_
      refine s_sld o lo dL_law_339 (q := 340) rfl (fun v52_ => ?_)
      refine s_on (fun hk53_ => ?_)
      refine s_bi (fun r0 hr0 => runV o hk53_ cv_L_43 (c_X6_map (xG X) f x2 v50_ v51_ v52_ h48_ (xl X) r0 hr0) ⟨Nat.le_of_ble_eq_true rfl, Nat.le_of_ble_eq_true rfl⟩ rfl rfl (Nat.le_of_ble_eq_true rfl) dL_law_340 ⟨Nat.le_of_ble_eq_true rfl, Nat.le_of_ble_eq_true rfl⟩) (q := 343) rfl (cs' := 87) rfl (sl' := 2729) rfl (fun v55_ h54_ => ?_)
      refine s_ic_eq o (tgt := 1050) dL_law_343 (by decide) (q := 346) rfl ?_ ?_
      · exact s_sub [0, 1, 2, 3] rfl (t_L_law_1050 o lo f hk18 x1 x2 x3 h54_)
      · refine s_iconst o dL_law_346 (v := (0 : Int32)) (by decide) (q := 347) rfl ?_
        exact s_lawret o lo dL_law_347
    · refine s_aload_n o 1 rfl dL_law_348 (q := 349) rfl ?_
      refine s_aload_n o 0 rfl dL_law_349 (q := 350) rfl ?_
      refine s_iload_n o 3 rfl dL_law_350 (q := 351) rfl ?_
      refine s_iconst o dL_law_351 (v := (1 : Int32)) (by decide) (q := 352) rfl ?_
      refine s_iadd o dL_law_352 (q := 353) rfl ?_
      refine s_sld o lo dL_law_353 (q := 354) rfl (fun v56_ => ?_)
      refine s_aload_n o 0 rfl dL_law_354 (q := 355) rfl ?_
      refine s_iload_n o 3 rfl dL_law_355 (q := 356) rfl ?_
      refine s_iconst o dL_law_356 (v := (2 : Int32)) (by decide) (q := 357) rfl ?_
      refine s_iadd o dL_law_357 (q := 358) rfl ?_
      refine s_sld o lo dL_law_358 (q := 359) rfl (fun v57_ => ?_)
      refine s_on (fun hk58_ => ?_)
      refine s_bi (fun r0 hr0 => runV o hk58_ cv_L_44 (c_X5_leads (xG X) f x1 v56_ v57_ h (xl X) r0 hr0) ⟨Nat.le_of_ble_eq_true rfl, Nat.le_of_ble_eq_true rfl⟩ rfl rfl (Nat.le_of_ble_eq_true rfl) dL_law_359 ⟨Nat.le_of_ble_eq_true rfl, Nat.le_of_ble_eq_true rfl⟩) (q := 362) rfl (cs' := 87) rfl (sl' := 2729) rfl (fun v60_ h59_ => ?_)
      refine s_aload_n o 2 rfl dL_law_362 (q := 363) rfl ?_
      refine s_aload_n o 0 rfl dL_law_363 (q := 364) rfl ?_
      refine s_iload_n o 3 rfl dL_law_364 (q := 365) rfl ?_
      refine s_iconst o dL_law_365 (v := (1 : Int32)) (by decide) (q := 366) rfl ?_
      refine s_iadd o dL_law_366 (q := 367) rfl ?_
      refine s_sld o lo dL_law_367 (q := 368) rfl (fun v61_ => ?_)
      refine s_aload_n o 0 rfl dL_law_368 (q := 369) rfl ?_
      refine s_iload_n o 3 rfl dL_law_369 (q := 370) rfl ?_
      refine s_iconst o dL_law_370 (v := (2 : Int32)) (by decide) (q := 371) rfl ?_
      refine s_iadd o dL_law_371 (q := 372) rfl ?_
      refine s_sld o lo dL_law_372 (q := 373) rfl (fun v62_ => ?_)
      refine s_on (fun hk63_ => ?_)
      refine s_bi (fun r0 hr0 => runV o hk63_ cv_L_47 (c_X6_leads (xG X) f x2 v61_ v62_ h59_ (xl X) r0 hr0) ⟨Nat.le_of_ble_eq_true rfl, Nat.le_of_ble_eq_true rfl⟩ rfl rfl (Nat.le_of_ble_eq_true rfl) dL_law_373 ⟨Nat.le_of_ble_eq_true rfl, Nat.le_of_ble_eq_true rfl⟩) (q := 376) rfl (cs' := 87) rfl (sl' := 2729) rfl (fun v65_ h64_ => ?_)
      refine s_ic_eq o (tgt := 1050) dL_law_376 (by decide) (q := 379) rfl ?_ ?_
      · exact s_sub [0, 1, 2, 3] rfl (t_L_law_1050 o lo f hk18 x1 x2 x3 h64_)
      · refine s_iconst o dL_law_379 (v := (0 : Int32)) (by decide) (q := 380) rfl ?_
        exact s_lawret o lo dL_law_380
    · refine s_aload_n o 1 rfl dL_law_381 (q := 382) rfl ?_
      refine s_aload_n o 0 rfl dL_law_382 (q := 383) rfl ?_
      refine s_iload_n o 3 rfl dL_law_383 (q := 384) rfl ?_
      refine s_iconst o dL_law_384 (v := (1 : Int32)) (by decide) (q := 385) rfl ?_
      refine s_iadd o dL_law_385 (q := 386) rfl ?_
      refine s_sld o lo dL_law_386 (q := 387) rfl (fun v66_ => ?_)
      refine s_aload_n o 0 rfl dL_law_387 (q := 388) rfl ?_
      refine s_iload_n o 3 rfl dL_law_388 (q := 389) rfl ?_
      refine s_iconst o dL_law_389 (v := (2 : Int32)) (by decide) (q := 390) rfl ?_
      refine s_iadd o dL_law_390 (q := 391) rfl ?_
      refine s_sld o lo dL_law_391 (q := 392) rfl (fun v67_ => ?_)
      refine s_on (fun hk68_ => ?_)
      refine s_bi (fun r0 hr0 => runV o hk68_ cv_L_48 (c_X5_knows (xG X) f x1 v66_ v67_ h (xl X) r0 hr0) ⟨Nat.le_of_ble_eq_true rfl, Nat.le_of_ble_eq_true rfl⟩ rfl rfl (Nat.le_of_ble_eq_true rfl) dL_law_392 ⟨Nat.le_of_ble_eq_true rfl, Nat.le_of_ble_eq_true rfl⟩) (q := 395) rfl (cs' := 87) rfl (sl' := 2729) rfl (fun v70_ h69_ => ?_)
      refine s_aload_n o 2 rfl dL_law_395 (q := 396) rfl ?_
      refine s_aload_n o 0 rfl dL_law_396 (q := 397) rfl ?_
      refine s_iload_n o 3 rfl dL_law_397 (q := 398) rfl ?_
      refine s_iconst o dL_law_398 (v := (1 : Int32)) (by decide) (q := 399) rfl ?_
      refine s_iadd o dL_law_399 (q := 400) rfl ?_
      refine s_sld o lo dL_law_400 (q := 401) rfl (fun v71_ => ?_)
      refine s_aload_n o 0 rfl dL_law_401 (q := 402) rfl ?_
      refine s_iload_n o 3 rfl dL_law_402 (q := 403) rfl ?_
      refine s_iconst o dL_law_403 (v := (2 : Int32)) (by decide) (q := 404) rfl ?_
      refine s_iadd o dL_law_404 (q := 405) rfl ?_
      refine s_sld o lo dL_law_405 (q := 406) rfl (fun v72_ => ?_)
      refine s_on (fun hk73_ => ?_)
      refine s_bi (fun r0 hr0 => runV o hk73_ cv_L_51 (c_X6_knows (xG X) f x2 v71_ v72_ h69_ (xl X) r0 hr0) ⟨Nat.le_of_ble_eq_true rfl, Nat.le_of_ble_eq_true rfl⟩ rfl rfl (Nat.le_of_ble_eq_true rfl) dL_law_406 ⟨Nat.le_of_ble_eq_true rfl, Nat.le_of_ble_eq_true rfl⟩) (q := 409) rfl (cs' := 87) rfl (sl' := 2729) rfl (fun v75_ h74_ => ?_)
      refine s_ic_eq o (tgt := 1050) dL_law_409 (by decide) (q := 412) rfl ?_ ?_
      · exact s_sub [0, 1, 2, 3] rfl (t_L_law_1050 o lo f hk18 x1 x2 x3 h74_)
      · refine s_iconst o dL_law_412 (v := (0 : Int32)) (by decide) (q := 413) rfl ?_
        exact s_lawret o lo dL_law_413
    · refine s_aload_n o 1 rfl dL_law_414 (q := 415) rfl ?_
      refine s_aload_n o 0 rfl dL_law_415 (q := 416) rfl ?_
      refine s_iload_n o 3 rfl dL_law_416 (q := 417) rfl ?_
      refine s_iconst o dL_law_417 (v := (1 : Int32)) (by decide) (q := 418) rfl ?_
      refine s_iadd o dL_law_418 (q := 419) rfl ?_
      refine s_sld o lo dL_law_419 (q := 420) rfl (fun v76_ => ?_)
      refine s_aload_n o 0 rfl dL_law_420 (q := 421) rfl ?_
      refine s_iload_n o 3 rfl dL_law_421 (q := 422) rfl ?_
      refine s_iconst o dL_law_422 (v := (2 : Int32)) (by decide) (q := 423) rfl ?_
      refine s_iadd o dL_law_423 (q := 424) rfl ?_
      refine s_sld o lo dL_law_424 (q := 425) rfl (fun v77_ => ?_)
      refine s_aload_n o 0 rfl dL_law_425 (q := 426) rfl ?_
      refine s_iload_n o 3 rfl dL_law_426 (q := 427) rfl ?_
      refine s_iconst o dL_law_427 (v := (3 : Int32)) (by decide) (q := 428) rfl ?_
      refine s_iadd o dL_law_428 (q := 429) rfl ?_
      refine s_sld o lo dL_law_429 (q := 430) rfl (fun v78_ => ?_)
      refine s_on (fun hk79_ => ?_)
      refine s_bi (fun r0 hr0 => runV o hk79_ cv_L_52 (c_X5_show (xG X) f x1 v76_ v77_ v78_ h (xl X) r0 hr0) ⟨Nat.le_of_ble_eq_true rfl, Nat.le_of_ble_eq_true rfl⟩ rfl rfl (Nat.le_of_ble_eq_true rfl) dL_law_430 ⟨Nat.le_of_ble_eq_true rfl, Nat.le_of_ble_eq_true rfl⟩) (q := 433) rfl (cs' := 87) rfl (sl' := 2729) rfl (fun v81_ h80_ => ?_)
      refine s_aload_n o 2 rfl dL_law_433 (q := 434) rfl ?_
      refine s_aload_n o 0 rfl dL_law_434 (q := 435) rfl ?_
      refine s_iload_n o 3 rfl dL_law_435 (q := 436) rfl ?_
      refine s_iconst o dL_law_436 (v := (1 : Int32)) (by decide) (q := 437) rfl ?_
      refine s_iadd o dL_law_437 (q := 438) rfl ?_
      refine s_sld o lo dL_law_438 (q := 439) rfl (fun v82_ => ?_)
      refine s_aload_n o 0 rfl dL_law_439 (q := 440) rfl ?_
      refine s_iload_n o 3 rfl dL_law_440 (q := 441) rfl ?_
      refine s_iconst o dL_law_441 (v := (2 : Int32)) (by decide) (q := 442) rfl ?_
      refine s_iadd o dL_law_442 (q := 443) rfl ?_
      refine s_sld o lo dL_law_443 (q := 444) rfl (fun v83_ => ?_)
      refine s_aload_n o 0 rfl dL_law_444 (q := 445) rfl ?_
      refine s_iload_n o 3 rfl dL_law_445 (q := 446) rfl ?_
      refine s_iconst o dL_law_446 (v := (3 : Int32)) (by decide) (q := 447) rfl ?_
      refine s_iadd o dL_law_447 (q := 448) rfl ?_
      refine s_sld o lo dL_law_448 (q := 449) rfl (fun v84_ => ?_)
      refine s_on (fun hk85_ => ?_)
      refine s_bi (fun r0 hr0 => runV o hk85_ cv_L_55 (c_X6_show (xG X) f x2 v82_ v83_ v84_ h80_ (xl X) r0 hr0) ⟨Nat.le_of_ble_eq_true rfl, Nat.le_of_ble_eq_true rfl⟩ rfl rfl (Nat.le_of_ble_eq_true rfl) dL_law_449 ⟨Nat.le_of_ble_eq_true rfl, Nat.le_of_ble_eq_true rfl⟩) (q := 452) rfl (cs' := 87) rfl (sl' := 2729) rfl (fun v87_ h86_ => ?_)
      refine s_ic_eq o (tgt := 1050) dL_law_452 (by decide) (q := 455) rfl ?_ ?_
      · exact s_sub [0, 1, 2, 3] rfl (t_L_law_1050 o lo f hk18 x1 x2 x3 h86_)
      · refine s_iconst o dL_law_455 (v := (0 : Int32)) (by decide) (q := 456) rfl ?_
        exact s_lawret o lo dL_law_456
    · refine s_aload_n o 1 rfl dL_law_457 (q := 458) rfl ?_
      refine s_aload_n o 0 rfl dL_law_458 (q := 459) rfl ?_
      refine s_iload_n o 3 rfl dL_law_459 (q := 460) rfl ?_
      refine s_iconst o dL_law_460 (v := (1 : Int32)) (by decide) (q := 461) rfl ?_
      refine s_iadd o dL_law_461 (q := 462) rfl ?_
      refine s_sld o lo dL_law_462 (q := 463) rfl (fun v88_ => ?_)
      refine s_aload_n o 0 rfl dL_law_463 (q := 464) rfl ?_
      refine s_iload_n o 3 rfl dL_law_464 (q := 465) rfl ?_
      refine s_iconst o dL_law_465 (v := (2 : Int32)) (by decide) (q := 466) rfl ?_
      refine s_iadd o dL_law_466 (q := 467) rfl ?_
      refine s_sld o lo dL_law_467 (q := 468) rfl (fun v89_ => ?_)
      refine s_aload_n o 0 rfl dL_law_468 (q := 469) rfl ?_
      refine s_iload_n o 3 rfl dL_law_469 (q := 470) rfl ?_
      refine s_iconst o dL_law_470 (v := (3 : Int32)) (by decide) (q := 471) rfl ?_
      refine s_iadd o dL_law_471 (q := 472) rfl ?_
      refine s_sld o lo dL_law_472 (q := 473) rfl (fun v90_ => ?_)
      refine s_aload_n o 0 rfl dL_law_473 (q := 474) rfl ?_
      refine s_iload_n o 3 rfl dL_law_474 (q := 475) rfl ?_
      refine s_iconst o dL_law_475 (v := (4 : Int32)) (by decide) (q := 476) rfl ?_
      refine s_iadd o dL_law_476 (q := 477) rfl ?_
      refine s_sld o lo dL_law_477 (q := 478) rfl (fun v91_ => ?_)
      refine s_on (fun hk92_ => ?_)
      refine s_bi (fun r0 hr0 => runV o hk92_ cv_L_56 (c_X5_trade (xG X) f x1 v88_ v89_ v90_ v91_ h (xl X) r0 hr0) ⟨Nat.le_of_ble_eq_true rfl, Nat.le_of_ble_eq_true rfl⟩ rfl rfl (Nat.le_of_ble_eq_true rfl) dL_law_478 ⟨Nat.le_of_ble_eq_true rfl, Nat.le_of_ble_eq_true rfl⟩) (q := 481) rfl (cs' := 87) rfl (sl' := 2729) rfl (fun v94_ h93_ => ?_)
      refine s_aload_n o 2 rfl dL_law_481 (q := 482) rfl ?_
      refine s_aload_n o 0 rfl dL_law_482 (q := 483) rfl ?_
      refine s_iload_n o 3 rfl dL_law_483 (q := 484) rfl ?_
      refine s_iconst o dL_law_484 (v := (1 : Int32)) (by decide) (q := 485) rfl ?_
      refine s_iadd o dL_law_485 (q := 486) rfl ?_
      refine s_sld o lo dL_law_486 (q := 487) rfl (fun v95_ => ?_)
      refine s_aload_n o 0 rfl dL_law_487 (q := 488) rfl ?_
      refine s_iload_n o 3 rfl dL_law_488 (q := 489) rfl ?_
      refine s_iconst o dL_law_489 (v := (2 : Int32)) (by decide) (q := 490) rfl ?_
      refine s_iadd o dL_law_490 (q := 491) rfl ?_
      refine s_sld o lo dL_law_491 (q := 492) rfl (fun v96_ => ?_)
      refine s_aload_n o 0 rfl dL_law_492 (q := 493) rfl ?_
      refine s_iload_n o 3 rfl dL_law_493 (q := 494) rfl ?_
      refine s_iconst o dL_law_494 (v := (3 : Int32)) (by decide) (q := 495) rfl ?_
      refine s_iadd o dL_law_495 (q := 496) rfl ?_
      refine s_sld o lo dL_law_496 (q := 497) rfl (fun v97_ => ?_)
      refine s_aload_n o 0 rfl dL_law_497 (q := 498) rfl ?_
      refine s_iload_n o 3 rfl dL_law_498 (q := 499) rfl ?_
      refine s_iconst o dL_law_499 (v := (4 : Int32)) (by decide) (q := 500) rfl ?_
      refine s_iadd o dL_law_500 (q := 501) rfl ?_
      refine s_sld o lo dL_law_501 (q := 502) rfl (fun v98_ => ?_)
      refine s_on (fun hk99_ => ?_)
      refine s_bi (fun r0 hr0 => runV o hk99_ cv_L_60 (c_X6_trade (xG X) f x2 v95_ v96_ v97_ v98_ h93_ (xl X) r0 hr0) ⟨Nat.le_of_ble_eq_true rfl, Nat.le_of_ble_eq_true rfl⟩ rfl rfl (Nat.le_of_ble_eq_true rfl) dL_law_502 ⟨Nat.le_of_ble_eq_true rfl, Nat.le_of_ble_eq_true rfl⟩) (q := 505) rfl (cs' := 87) rfl (sl' := 2729) rfl (fun v101_ h100_ => ?_)
      refine s_ic_eq o (tgt := 1050) dL_law_505 (by decide) (q := 508) rfl ?_ ?_
      · exact s_sub [0, 1, 2, 3] rfl (t_L_law_1050 o lo f hk18 x1 x2 x3 h100_)
      · refine s_iconst o dL_law_508 (v := (0 : Int32)) (by decide) (q := 509) rfl ?_
        exact s_lawret o lo dL_law_509
    · refine s_aload_n o 1 rfl dL_law_510 (q := 511) rfl ?_
      refine s_aload_n o 0 rfl dL_law_511 (q := 512) rfl ?_
      refine s_iload_n o 3 rfl dL_law_512 (q := 513) rfl ?_
      refine s_iconst o dL_law_513 (v := (1 : Int32)) (by decide) (q := 514) rfl ?_
      refine s_iadd o dL_law_514 (q := 515) rfl ?_
      refine s_sld o lo dL_law_515 (q := 516) rfl (fun v102_ => ?_)
      refine s_aload_n o 0 rfl dL_law_516 (q := 517) rfl ?_
      refine s_iload_n o 3 rfl dL_law_517 (q := 518) rfl ?_
      refine s_iconst o dL_law_518 (v := (2 : Int32)) (by decide) (q := 519) rfl ?_
      refine s_iadd o dL_law_519 (q := 520) rfl ?_
      refine s_sld o lo dL_law_520 (q := 521) rfl (fun v103_ => ?_)
      refine s_aload_n o 0 rfl dL_law_521 (q := 522) rfl ?_
      refine s_iload_n o 3 rfl dL_law_522 (q := 523) rfl ?_
      refine s_iconst o dL_law_523 (v := (3 : Int32)) (by decide) (q := 524) rfl ?_
      refine s_iadd o dL_law_524 (q := 525) rfl ?_
      refine s_sld o lo dL_law_525 (q := 526) rfl (fun v104_ => ?_)
      refine s_on (fun hk105_ => ?_)
      refine s_bi (fun r0 hr0 => runV o hk105_ cv_L_61 (c_X5_dig (xG X) f x1 v102_ v103_ v104_ h (xl X) r0 hr0) ⟨Nat.le_of_ble_eq_true rfl, Nat.le_of_ble_eq_true rfl⟩ rfl rfl (Nat.le_of_ble_eq_true rfl) dL_law_526 ⟨Nat.le_of_ble_eq_true rfl, Nat.le_of_ble_eq_true rfl⟩) (q := 529) rfl (cs' := 87) rfl (sl' := 2729) rfl (fun v107_ h106_ => ?_)
      refine s_aload_n o 2 rfl dL_law_529 (q := 530) rfl ?_
      refine s_aload_n o 0 rfl dL_law_530 (q := 531) rfl ?_
      refine s_iload_n o 3 rfl dL_law_531 (q := 532) rfl ?_
      refine s_iconst o dL_law_532 (v := (1 : Int32)) (by decide) (q := 533) rfl ?_
      refine s_iadd o dL_law_533 (q := 534) rfl ?_
      refine s_sld o lo dL_law_534 (q := 535) rfl (fun v108_ => ?_)
      refine s_aload_n o 0 rfl dL_law_535 (q := 536) rfl ?_
      refine s_iload_n o 3 rfl dL_law_536 (q := 537) rfl ?_
      refine s_iconst o dL_law_537 (v := (2 : Int32)) (by decide) (q := 538) rfl ?_
      refine s_iadd o dL_law_538 (q := 539) rfl ?_
      refine s_sld o lo dL_law_539 (q := 540) rfl (fun v109_ => ?_)
      refine s_aload_n o 0 rfl dL_law_540 (q := 541) rfl ?_
      refine s_iload_n o 3 rfl dL_law_541 (q := 542) rfl ?_
      refine s_iconst o dL_law_542 (v := (3 : Int32)) (by decide) (q := 543) rfl ?_
      refine s_iadd o dL_law_543 (q := 544) rfl ?_
      refine s_sld o lo dL_law_544 (q := 545) rfl (fun v110_ => ?_)
      refine s_on (fun hk111_ => ?_)
      refine s_bi (fun r0 hr0 => runV o hk111_ cv_L_64 (c_X6_dig (xG X) f x2 v108_ v109_ v110_ h106_ (xl X) r0 hr0) ⟨Nat.le_of_ble_eq_true rfl, Nat.le_of_ble_eq_true rfl⟩ rfl rfl (Nat.le_of_ble_eq_true rfl) dL_law_545 ⟨Nat.le_of_ble_eq_true rfl, Nat.le_of_ble_eq_true rfl⟩) (q := 548) rfl (cs' := 87) rfl (sl' := 2729) rfl (fun v113_ h112_ => ?_)
      refine s_ic_eq o (tgt := 1050) dL_law_548 (by decide) (q := 551) rfl ?_ ?_
      · exact s_sub [0, 1, 2, 3] rfl (t_L_law_1050 o lo f hk18 x1 x2 x3 h112_)
      · refine s_iconst o dL_law_551 (v := (0 : Int32)) (by decide) (q := 552) rfl ?_
        exact s_lawret o lo dL_law_552
    · refine s_aload_n o 1 rfl dL_law_553 (q := 554) rfl ?_
      refine s_aload_n o 0 rfl dL_law_554 (q := 555) rfl ?_
      refine s_iload_n o 3 rfl dL_law_555 (q := 556) rfl ?_
      refine s_iconst o dL_law_556 (v := (1 : Int32)) (by decide) (q := 557) rfl ?_
      refine s_iadd o dL_law_557 (q := 558) rfl ?_
      refine s_sld o lo dL_law_558 (q := 559) rfl (fun v114_ => ?_)
      refine s_on (fun hk115_ => ?_)
      refine s_bi (fun r0 hr0 => runV o hk115_ cv_L_65 (c_X5_purse (xG X) f x1 v114_ h (xl X) r0 hr0) ⟨Nat.le_of_ble_eq_true rfl, Nat.le_of_ble_eq_true rfl⟩ rfl rfl (Nat.le_of_ble_eq_true rfl) dL_law_559 ⟨Nat.le_of_ble_eq_true rfl, Nat.le_of_ble_eq_true rfl⟩) (q := 562) rfl (cs' := 87) rfl (sl' := 2729) rfl (fun v117_ h116_ => ?_)
      refine s_aload_n o 2 rfl dL_law_562 (q := 563) rfl ?_
      refine s_aload_n o 0 rfl dL_law_563 (q := 564) rfl ?_
      refine s_iload_n o 3 rfl dL_law_564 (q := 565) rfl ?_
      refine s_iconst o dL_law_565 (v := (1 : Int32)) (by decide) (q := 566) rfl ?_
      refine s_iadd o dL_law_566 (q := 567) rfl ?_
      refine s_sld o lo dL_law_567 (q := 568) rfl (fun v118_ => ?_)
      refine s_on (fun hk119_ => ?_)
      refine s_bi (fun r0 hr0 => runV o hk119_ cv_L_68 (c_X6_purse (xG X) f x2 v118_ h116_ (xl X) r0 hr0) ⟨Nat.le_of_ble_eq_true rfl, Nat.le_of_ble_eq_true rfl⟩ rfl rfl (Nat.le_of_ble_eq_true rfl) dL_law_568 ⟨Nat.le_of_ble_eq_true rfl, Nat.le_of_ble_eq_true rfl⟩) (q := 571) rfl (cs' := 87) rfl (sl' := 2729) rfl (fun v121_ h120_ => ?_)
      refine s_ic_eq o (tgt := 1050) dL_law_571 (by decide) (q := 574) rfl ?_ ?_
      · exact s_sub [0, 1, 2, 3] rfl (t_L_law_1050 o lo f hk18 x1 x2 x3 h120_)
      · refine s_iconst o dL_law_574 (v := (0 : Int32)) (by decide) (q := 575) rfl ?_
        exact s_lawret o lo dL_law_575
    · refine s_aload_n o 1 rfl dL_law_576 (q := 577) rfl ?_
      refine s_aload_n o 0 rfl dL_law_577 (q := 578) rfl ?_
      refine s_iload_n o 3 rfl dL_law_578 (q := 579) rfl ?_
      refine s_iconst o dL_law_579 (v := (1 : Int32)) (by decide) (q := 580) rfl ?_
      refine s_iadd o dL_law_580 (q := 581) rfl ?_
      refine s_sld o lo dL_law_581 (q := 582) rfl (fun v122_ => ?_)
      refine s_aload_n o 0 rfl dL_law_582 (q := 583) rfl ?_
      refine s_iload_n o 3 rfl dL_law_583 (q := 584) rfl ?_
      refine s_iconst o dL_law_584 (v := (2 : Int32)) (by decide) (q := 585) rfl ?_
      refine s_iadd o dL_law_585 (q := 586) rfl ?_
      refine s_sld o lo dL_law_586 (q := 587) rfl (fun v123_ => ?_)
      refine s_on (fun hk124_ => ?_)
      refine s_bi (fun r0 hr0 => runV o hk124_ cv_L_69 (c_X5_may (xG X) f x1 v122_ v123_ h (xl X) r0 hr0) ⟨Nat.le_of_ble_eq_true rfl, Nat.le_of_ble_eq_true rfl⟩ rfl rfl (Nat.le_of_ble_eq_true rfl) dL_law_587 ⟨Nat.le_of_ble_eq_true rfl, Nat.le_of_ble_eq_true rfl⟩) (q := 590) rfl (cs' := 87) rfl (sl' := 2729) rfl (fun v126_ h125_ => ?_)
      refine s_aload_n o 2 rfl dL_law_590 (q := 591) rfl ?_
      refine s_aload_n o 0 rfl dL_law_591 (q := 592) rfl ?_
      refine s_iload_n o 3 rfl dL_law_592 (q := 593) rfl ?_
      refine s_iconst o dL_law_593 (v := (1 : Int32)) (by decide) (q := 594) rfl ?_
      refine s_iadd o dL_law_594 (q := 595) rfl ?_
      refine s_sld o lo dL_law_595 (q := 596) rfl (fun v127_ => ?_)
      refine s_aload_n o 0 rfl dL_law_596 (q := 597) rfl ?_
      refine s_iload_n o 3 rfl dL_law_597 (q := 598) rfl ?_
      refine s_iconst o dL_law_598 (v := (2 : Int32)) (by decide) (q := 599) rfl ?_
      refine s_iadd o dL_law_599 (q := 600) rfl ?_
      refine s_sld o lo dL_law_600 (q := 601) rfl (fun v128_ => ?_)
      refine s_on (fun hk129_ => ?_)
      refine s_bi (fun r0 hr0 => runV o hk129_ cv_L_72 (c_X6_may (xG X) f x2 v127_ v128_ h125_ (xl X) r0 hr0) ⟨Nat.le_of_ble_eq_true rfl, Nat.le_of_ble_eq_true rfl⟩ rfl rfl (Nat.le_of_ble_eq_true rfl) dL_law_601 ⟨Nat.le_of_ble_eq_true rfl, Nat.le_of_ble_eq_true rfl⟩) (q := 604) rfl (cs' := 87) rfl (sl' := 2729) rfl (fun v131_ h130_ => ?_)
      refine s_ic_eq o (tgt := 1050) dL_law_604 (by decide) (q := 607) rfl ?_ ?_
      · exact s_sub [0, 1, 2, 3] rfl (t_L_law_1050 o lo f hk18 x1 x2 x3 h130_)
      · refine s_iconst o dL_law_607 (v := (0 : Int32)) (by decide) (q := 608) rfl ?_
        exact s_lawret o lo dL_law_608
    · refine s_aload_n o 1 rfl dL_law_609 (q := 610) rfl ?_
      refine s_aload_n o 0 rfl dL_law_610 (q := 611) rfl ?_
      refine s_iload_n o 3 rfl dL_law_611 (q := 612) rfl ?_
      refine s_iconst o dL_law_612 (v := (1 : Int32)) (by decide) (q := 613) rfl ?_
      refine s_iadd o dL_law_613 (q := 614) rfl ?_
      refine s_sld o lo dL_law_614 (q := 615) rfl (fun v132_ => ?_)
      refine s_aload_n o 0 rfl dL_law_615 (q := 616) rfl ?_
      refine s_iload_n o 3 rfl dL_law_616 (q := 617) rfl ?_
      refine s_iconst o dL_law_617 (v := (2 : Int32)) (by decide) (q := 618) rfl ?_
      refine s_iadd o dL_law_618 (q := 619) rfl ?_
      refine s_sld o lo dL_law_619 (q := 620) rfl (fun v133_ => ?_)
      refine s_on (fun hk134_ => ?_)
      refine s_bi (fun r0 hr0 => runV o hk134_ cv_L_73 (c_X5_sure (xG X) f x1 v132_ v133_ h (xl X) r0 hr0) ⟨Nat.le_of_ble_eq_true rfl, Nat.le_of_ble_eq_true rfl⟩ rfl rfl (Nat.le_of_ble_eq_true rfl) dL_law_620 ⟨Nat.le_of_ble_eq_true rfl, Nat.le_of_ble_eq_true rfl⟩) (q := 623) rfl (cs' := 87) rfl (sl' := 2729) rfl (fun v136_ h135_ => ?_)
      refine s_aload_n o 2 rfl dL_law_623 (q := 624) rfl ?_
      refine s_aload_n o 0 rfl dL_law_624 (q := 625) rfl ?_
      refine s_iload_n o 3 rfl dL_law_625 (q := 626) rfl ?_
      refine s_iconst o dL_law_626 (v := (1 : Int32)) (by decide) (q := 627) rfl ?_
      refine s_iadd o dL_law_627 (q := 628) rfl ?_
      refine s_sld o lo dL_law_628 (q := 629) rfl (fun v137_ => ?_)
      refine s_aload_n o 0 rfl dL_law_629 (q := 630) rfl ?_
      refine s_iload_n o 3 rfl dL_law_630 (q := 631) rfl ?_
      refine s_iconst o dL_law_631 (v := (2 : Int32)) (by decide) (q := 632) rfl ?_
      refine s_iadd o dL_law_632 (q := 633) rfl ?_
      refine s_sld o lo dL_law_633 (q := 634) rfl (fun v138_ => ?_)
      refine s_on (fun hk139_ => ?_)
      refine s_bi (fun r0 hr0 => runV o hk139_ cv_L_76 (c_X6_sure (xG X) f x2 v137_ v138_ h135_ (xl X) r0 hr0) ⟨Nat.le_of_ble_eq_true rfl, Nat.le_of_ble_eq_true rfl⟩ rfl rfl (Nat.le_of_ble_eq_true rfl) dL_law_634 ⟨Nat.le_of_ble_eq_true rfl, Nat.le_of_ble_eq_true rfl⟩) (q := 637) rfl (cs' := 87) rfl (sl' := 2729) rfl (fun v141_ h140_ => ?_)
      refine s_ic_eq o (tgt := 1050) dL_law_637 (by decide) (q := 640) rfl ?_ ?_
      · exact s_sub [0, 1, 2, 3] rfl (t_L_law_1050 o lo f hk18 x1 x2 x3 h140_)
      · refine s_iconst o dL_law_640 (v := (0 : Int32)) (by decide) (q := 641) rfl ?_
        exact s_lawret o lo dL_law_641
    · refine s_aload_n o 1 rfl dL_law_642 (q := 643) rfl ?_
      refine s_aload_n o 0 rfl dL_law_643 (q := 644) rfl ?_
      refine s_iload_n o 3 rfl dL_law_644 (q := 645) rfl ?_
      refine s_iconst o dL_law_645 (v := (1 : Int32)) (by decide) (q := 646) rfl ?_
      refine s_iadd o dL_law_646 (q := 647) rfl ?_
      refine s_sld o lo dL_law_647 (q := 648) rfl (fun v142_ => ?_)
      refine s_aload_n o 0 rfl dL_law_648 (q := 649) rfl ?_
      refine s_iload_n o 3 rfl dL_law_649 (q := 650) rfl ?_
      refine s_iconst o dL_law_650 (v := (2 : Int32)) (by decide) (q := 651) rfl ?_
      refine s_iadd o dL_law_651 (q := 652) rfl ?_
      refine s_sld o lo dL_law_652 (q := 653) rfl (fun v143_ => ?_)
      refine s_aload_n o 0 rfl dL_law_653 (q := 654) rfl ?_
      refine s_iload_n o 3 rfl dL_law_654 (q := 655) rfl ?_
      refine s_iconst o dL_law_655 (v := (3 : Int32)) (by decide) (q := 656) rfl ?_
      refine s_iadd o dL_law_656 (q := 657) rfl ?_
      refine s_sld o lo dL_law_657 (q := 658) rfl (fun v144_ => ?_)
      refine s_on (fun hk145_ => ?_)
      refine s_bi (fun r0 hr0 => runV o hk145_ cv_L_77 (c_X5_area (xG X) f x1 v142_ v143_ v144_ h (xl X) r0 hr0) ⟨Nat.le_of_ble_eq_true rfl, Nat.le_of_ble_eq_true rfl⟩ rfl rfl (Nat.le_of_ble_eq_true rfl) dL_law_658 ⟨Nat.le_of_ble_eq_true rfl, Nat.le_of_ble_eq_true rfl⟩) (q := 661) rfl (cs' := 87) rfl (sl' := 2729) rfl (fun v147_ h146_ => ?_)
      refine s_aload_n o 2 rfl dL_law_661 (q := 662) rfl ?_
      refine s_aload_n o 0 rfl dL_law_662 (q := 663) rfl ?_
      refine s_iload_n o 3 rfl dL_law_663 (q := 664) rfl ?_
      refine s_iconst o dL_law_664 (v := (1 : Int32)) (by decide) (q := 665) rfl ?_
      refine s_iadd o dL_law_665 (q := 666) rfl ?_
      refine s_sld o lo dL_law_666 (q := 667) rfl (fun v148_ => ?_)
      refine s_aload_n o 0 rfl dL_law_667 (q := 668) rfl ?_
      refine s_iload_n o 3 rfl dL_law_668 (q := 669) rfl ?_
      refine s_iconst o dL_law_669 (v := (2 : Int32)) (by decide) (q := 670) rfl ?_
      refine s_iadd o dL_law_670 (q := 671) rfl ?_
      refine s_sld o lo dL_law_671 (q := 672) rfl (fun v149_ => ?_)
      refine s_aload_n o 0 rfl dL_law_672 (q := 673) rfl ?_
      refine s_iload_n o 3 rfl dL_law_673 (q := 674) rfl ?_
      refine s_iconst o dL_law_674 (v := (3 : Int32)) (by decide) (q := 675) rfl ?_
      refine s_iadd o dL_law_675 (q := 676) rfl ?_
      refine s_sld o lo dL_law_676 (q := 677) rfl (fun v150_ => ?_)
      refine s_on (fun hk151_ => ?_)
      refine s_bi (fun r0 hr0 => runV o hk151_ cv_L_80 (c_X6_area (xG X) f x2 v148_ v149_ v150_ h146_ (xl X) r0 hr0) ⟨Nat.le_of_ble_eq_true rfl, Nat.le_of_ble_eq_true rfl⟩ rfl rfl (Nat.le_of_ble_eq_true rfl) dL_law_677 ⟨Nat.le_of_ble_eq_true rfl, Nat.le_of_ble_eq_true rfl⟩) (q := 680) rfl (cs' := 87) rfl (sl' := 2729) rfl (fun v153_ h152_ => ?_)
      refine s_ic_eq o (tgt := 1050) dL_law_680 (by decide) (q := 683) rfl ?_ ?_
      · exact s_sub [0, 1, 2, 3] rfl (t_L_law_1050 o lo f hk18 x1 x2 x3 h152_)
      · refine s_iconst o dL_law_683 (v := (0 : Int32)) (by decide) (q := 684) rfl ?_
        exact s_lawret o lo dL_law_684
    · refine s_aload_n o 1 rfl dL_law_685 (q := 686) rfl ?_
      refine s_aload_n o 0 rfl dL_law_686 (q := 687) rfl ?_
      refine s_iload_n o 3 rfl dL_law_687 (q := 688) rfl ?_
      refine s_iconst o dL_law_688 (v := (1 : Int32)) (by decide) (q := 689) rfl ?_
      refine s_iadd o dL_law_689 (q := 690) rfl ?_
      refine s_sld o lo dL_law_690 (q := 691) rfl (fun v154_ => ?_)
      refine s_aload_n o 0 rfl dL_law_691 (q := 692) rfl ?_
      refine s_iload_n o 3 rfl dL_law_692 (q := 693) rfl ?_
      refine s_iconst o dL_law_693 (v := (2 : Int32)) (by decide) (q := 694) rfl ?_
      refine s_iadd o dL_law_694 (q := 695) rfl ?_
      refine s_sld o lo dL_law_695 (q := 696) rfl (fun v155_ => ?_)
      refine s_on (fun hk156_ => ?_)
      refine s_bi (fun r0 hr0 => runV o hk156_ cv_L_81 (c_X5_best (xG X) f x1 v154_ v155_ h (xl X) r0 hr0) ⟨Nat.le_of_ble_eq_true rfl, Nat.le_of_ble_eq_true rfl⟩ rfl rfl (Nat.le_of_ble_eq_true rfl) dL_law_696 ⟨Nat.le_of_ble_eq_true rfl, Nat.le_of_ble_eq_true rfl⟩) (q := 699) rfl (cs' := 87) rfl (sl' := 2729) rfl (fun v158_ h157_ => ?_)
      refine s_aload_n o 2 rfl dL_law_699 (q := 700) rfl ?_
      refine s_aload_n o 0 rfl dL_law_700 (q := 701) rfl ?_
      refine s_iload_n o 3 rfl dL_law_701 (q := 702) rfl ?_
      refine s_iconst o dL_law_702 (v := (1 : Int32)) (by decide) (q := 703) rfl ?_
      refine s_iadd o dL_law_703 (q := 704) rfl ?_
      refine s_sld o lo dL_law_704 (q := 705) rfl (fun v159_ => ?_)
      refine s_aload_n o 0 rfl dL_law_705 (q := 706) rfl ?_
      refine s_iload_n o 3 rfl dL_law_706 (q := 707) rfl ?_
      refine s_iconst o dL_law_707 (v := (2 : Int32)) (by decide) (q := 708) rfl ?_
      refine s_iadd o dL_law_708 (q := 709) rfl ?_
      refine s_sld o lo dL_law_709 (q := 710) rfl (fun v160_ => ?_)
      refine s_on (fun hk161_ => ?_)
      refine s_bi (fun r0 hr0 => runV o hk161_ cv_L_84 (c_X6_best (xG X) f x2 v159_ v160_ h157_ (xl X) r0 hr0) ⟨Nat.le_of_ble_eq_true rfl, Nat.le_of_ble_eq_true rfl⟩ rfl rfl (Nat.le_of_ble_eq_true rfl) dL_law_710 ⟨Nat.le_of_ble_eq_true rfl, Nat.le_of_ble_eq_true rfl⟩) (q := 713) rfl (cs' := 87) rfl (sl' := 2729) rfl (fun v163_ h162_ => ?_)
      refine s_ic_eq o (tgt := 1050) dL_law_713 (by decide) (q := 716) rfl ?_ ?_
      · exact s_sub [0, 1, 2, 3] rfl (t_L_law_1050 o lo f hk18 x1 x2 x3 h162_)
      · refine s_iconst o dL_law_716 (v := (0 : Int32)) (by decide) (q := 717) rfl ?_
        exact s_lawret o lo dL_law_717
    · refine s_aload_n o 1 rfl dL_law_718 (q := 719) rfl ?_
      refine s_aload_n o 0 rfl dL_law_719 (q := 720) rfl ?_
      refine s_iload_n o 3 rfl dL_law_720 (q := 721) rfl ?_
      refine s_iconst o dL_law_721 (v := (1 : Int32)) (by decide) (q := 722) rfl ?_
      refine s_iadd o dL_law_722 (q := 723) rfl ?_
      refine s_sld o lo dL_law_723 (q := 724) rfl (fun v164_ => ?_)
      refine s_aload_n o 0 rfl dL_law_724 (q := 725) rfl ?_
      refine s_iload_n o 3 rfl dL_law_725 (q := 726) rfl ?_
      refine s_iconst o dL_law_726 (v := (2 : Int32)) (by decide) (q := 727) rfl ?_
      refine s_iadd o dL_law_727 (q := 728) rfl ?_
      refine s_sld o lo dL_law_728 (q := 729) rfl (fun v165_ => ?_)
      refine s_aload_n o 0 rfl dL_law_729 (q := 730) rfl ?_
      refine s_iload_n o 3 rfl dL_law_730 (q := 731) rfl ?_
      refine s_iconst o dL_law_731 (v := (3 : Int32)) (by decide) (q := 732) rfl ?_
      refine s_iadd o dL_law_732 (q := 733) rfl ?_
      refine s_sld o lo dL_law_733 (q := 734) rfl (fun v166_ => ?_)
      refine s_on (fun hk167_ => ?_)
      refine s_bi (fun r0 hr0 => runV o hk167_ cv_L_85 (c_X5_corner (xG X) f x1 v164_ v165_ v166_ h (xl X) r0 hr0) ⟨Nat.le_of_ble_eq_true rfl, Nat.le_of_ble_eq_true rfl⟩ rfl rfl (Nat.le_of_ble_eq_true rfl) dL_law_734 ⟨Nat.le_of_ble_eq_true rfl, Nat.le_of_ble_eq_true rfl⟩) (q := 737) rfl (cs' := 87) rfl (sl' := 2729) rfl (fun v169_ h168_ => ?_)
      refine s_aload_n o 2 rfl dL_law_737 (q := 738) rfl ?_
      refine s_aload_n o 0 rfl dL_law_738 (q := 739) rfl ?_
      refine s_iload_n o 3 rfl dL_law_739 (q := 740) rfl ?_
      refine s_iconst o dL_law_740 (v := (1 : Int32)) (by decide) (q := 741) rfl ?_
      refine s_iadd o dL_law_741 (q := 742) rfl ?_
      refine s_sld o lo dL_law_742 (q := 743) rfl (fun v170_ => ?_)
      refine s_aload_n o 0 rfl dL_law_743 (q := 744) rfl ?_
      refine s_iload_n o 3 rfl dL_law_744 (q := 745) rfl ?_
      refine s_iconst o dL_law_745 (v := (2 : Int32)) (by decide) (q := 746) rfl ?_
      refine s_iadd o dL_law_746 (q := 747) rfl ?_
      refine s_sld o lo dL_law_747 (q := 748) rfl (fun v171_ => ?_)
      refine s_aload_n o 0 rfl dL_law_748 (q := 749) rfl ?_
      refine s_iload_n o 3 rfl dL_law_749 (q := 750) rfl ?_
      refine s_iconst o dL_law_750 (v := (3 : Int32)) (by decide) (q := 751) rfl ?_
      refine s_iadd o dL_law_751 (q := 752) rfl ?_
      refine s_sld o lo dL_law_752 (q := 753) rfl (fun v172_ => ?_)
      refine s_on (fun hk173_ => ?_)
      refine s_bi (fun r0 hr0 => runV o hk173_ cv_L_88 (c_X6_corner (xG X) f x2 v170_ v171_ v172_ h168_ (xl X) r0 hr0) ⟨Nat.le_of_ble_eq_true rfl, Nat.le_of_ble_eq_true rfl⟩ rfl rfl (Nat.le_of_ble_eq_true rfl) dL_law_753 ⟨Nat.le_of_ble_eq_true rfl, Nat.le_of_ble_eq_true rfl⟩) (q := 756) rfl (cs' := 87) rfl (sl' := 2729) rfl (fun v175_ h174_ => ?_)
      refine s_ic_eq o (tgt := 1050) dL_law_756 (by decide) (q := 759) rfl ?_ ?_
      · exact s_sub [0, 1, 2, 3] rfl (t_L_law_1050 o lo f hk18 x1 x2 x3 h174_)
      · refine s_iconst o dL_law_759 (v := (0 : Int32)) (by decide) (q := 760) rfl ?_
        exact s_lawret o lo dL_law_760
    · refine s_aload_n o 1 rfl dL_law_761 (q := 762) rfl ?_
      refine s_aload_n o 0 rfl dL_law_762 (q := 763) rfl ?_
      refine s_iload_n o 3 rfl dL_law_763 (q := 764) rfl ?_
      refine s_iconst o dL_law_764 (v := (1 : Int32)) (by decide) (q := 765) rfl ?_
      refine s_iadd o dL_law_765 (q := 766) rfl ?_
      refine s_sld o lo dL_law_766 (q := 767) rfl (fun v176_ => ?_)
      refine s_aload_n o 0 rfl dL_law_767 (q := 768) rfl ?_
      refine s_iload_n o 3 rfl dL_law_768 (q := 769) rfl ?_
      refine s_iconst o dL_law_769 (v := (2 : Int32)) (by decide) (q := 770) rfl ?_
      refine s_iadd o dL_law_770 (q := 771) rfl ?_
      refine s_sld o lo dL_law_771 (q := 772) rfl (fun v177_ => ?_)
      refine s_on (fun hk178_ => ?_)
      refine s_bi (fun r0 hr0 => runV o hk178_ cv_L_89 (c_X5_bestCorner (xG X) f x1 v176_ v177_ h (xl X) r0 hr0) ⟨Nat.le_of_ble_eq_true rfl, Nat.le_of_ble_eq_true rfl⟩ rfl rfl (Nat.le_of_ble_eq_true rfl) dL_law_772 ⟨Nat.le_of_ble_eq_true rfl, Nat.le_of_ble_eq_true rfl⟩) (q := 775) rfl (cs' := 87) rfl (sl' := 2729) rfl (fun v180_ h179_ => ?_)
      refine s_aload_n o 2 rfl dL_law_775 (q := 776) rfl ?_
      refine s_aload_n o 0 rfl dL_law_776 (q := 777) rfl ?_
      refine s_iload_n o 3 rfl dL_law_777 (q := 778) rfl ?_
      refine s_iconst o dL_law_778 (v := (1 : Int32)) (by decide) (q := 779) rfl ?_
      refine s_iadd o dL_law_779 (q := 780) rfl ?_
      refine s_sld o lo dL_law_780 (q := 781) rfl (fun v181_ => ?_)
      refine s_aload_n o 0 rfl dL_law_781 (q := 782) rfl ?_
      refine s_iload_n o 3 rfl dL_law_782 (q := 783) rfl ?_
      refine s_iconst o dL_law_783 (v := (2 : Int32)) (by decide) (q := 784) rfl ?_
      refine s_iadd o dL_law_784 (q := 785) rfl ?_
      refine s_sld o lo dL_law_785 (q := 786) rfl (fun v182_ => ?_)
      refine s_on (fun hk183_ => ?_)
      refine s_bi (fun r0 hr0 => runV o hk183_ cv_L_92 (c_X6_bestCorner (xG X) f x2 v181_ v182_ h179_ (xl X) r0 hr0) ⟨Nat.le_of_ble_eq_true rfl, Nat.le_of_ble_eq_true rfl⟩ rfl rfl (Nat.le_of_ble_eq_true rfl) dL_law_786 ⟨Nat.le_of_ble_eq_true rfl, Nat.le_of_ble_eq_true rfl⟩) (q := 789) rfl (cs' := 87) rfl (sl' := 2729) rfl (fun v185_ h184_ => ?_)
      refine s_ic_eq o (tgt := 1050) dL_law_789 (by decide) (q := 792) rfl ?_ ?_
      · exact s_sub [0, 1, 2, 3] rfl (t_L_law_1050 o lo f hk18 x1 x2 x3 h184_)
      · refine s_iconst o dL_law_792 (v := (0 : Int32)) (by decide) (q := 793) rfl ?_
        exact s_lawret o lo dL_law_793
    · refine s_aload_n o 1 rfl dL_law_794 (q := 795) rfl ?_
      refine s_aload_n o 0 rfl dL_law_795 (q := 796) rfl ?_
      refine s_iload_n o 3 rfl dL_law_796 (q := 797) rfl ?_
      refine s_iconst o dL_law_797 (v := (1 : Int32)) (by decide) (q := 798) rfl ?_
      refine s_iadd o dL_law_798 (q := 799) rfl ?_
      refine s_sld o lo dL_law_799 (q := 800) rfl (fun v186_ => ?_)
      refine s_on (fun hk187_ => ?_)
      refine s_bi (fun r0 hr0 => runV o hk187_ cv_L_93 (c_X5_spades (xG X) f x1 v186_ h (xl X) r0 hr0) ⟨Nat.le_of_ble_eq_true rfl, Nat.le_of_ble_eq_true rfl⟩ rfl rfl (Nat.le_of_ble_eq_true rfl) dL_law_800 ⟨Nat.le_of_ble_eq_true rfl, Nat.le_of_ble_eq_true rfl⟩) (q := 803) rfl (cs' := 87) rfl (sl' := 2729) rfl (fun v189_ h188_ => ?_)
      refine s_aload_n o 2 rfl dL_law_803 (q := 804) rfl ?_
      refine s_aload_n o 0 rfl dL_law_804 (q := 805) rfl ?_
      refine s_iload_n o 3 rfl dL_law_805 (q := 806) rfl ?_
      refine s_iconst o dL_law_806 (v := (1 : Int32)) (by decide) (q := 807) rfl ?_
      refine s_iadd o dL_law_807 (q := 808) rfl ?_
      refine s_sld o lo dL_law_808 (q := 809) rfl (fun v190_ => ?_)
      refine s_on (fun hk191_ => ?_)
      refine s_bi (fun r0 hr0 => runV o hk191_ cv_L_96 (c_X6_spades (xG X) f x2 v190_ h188_ (xl X) r0 hr0) ⟨Nat.le_of_ble_eq_true rfl, Nat.le_of_ble_eq_true rfl⟩ rfl rfl (Nat.le_of_ble_eq_true rfl) dL_law_809 ⟨Nat.le_of_ble_eq_true rfl, Nat.le_of_ble_eq_true rfl⟩) (q := 812) rfl (cs' := 87) rfl (sl' := 2729) rfl (fun v193_ h192_ => ?_)
      refine s_ic_eq o (tgt := 1050) dL_law_812 (by decide) (q := 815) rfl ?_ ?_
      · exact s_sub [0, 1, 2, 3] rfl (t_L_law_1050 o lo f hk18 x1 x2 x3 h192_)
      · refine s_iconst o dL_law_815 (v := (0 : Int32)) (by decide) (q := 816) rfl ?_
        exact s_lawret o lo dL_law_816
    · refine s_aload_n o 1 rfl dL_law_817 (q := 818) rfl ?_
      refine s_aload_n o 0 rfl dL_law_818 (q := 819) rfl ?_
      refine s_iload_n o 3 rfl dL_law_819 (q := 820) rfl ?_
      refine s_iconst o dL_law_820 (v := (1 : Int32)) (by decide) (q := 821) rfl ?_
      refine s_iadd o dL_law_821 (q := 822) rfl ?_
      refine s_sld o lo dL_law_822 (q := 823) rfl (fun v194_ => ?_)
      refine s_on (fun hk195_ => ?_)
      refine s_bi (fun r0 hr0 => runV o hk195_ cv_L_97 (c_X5_found (xG X) f x1 v194_ h (xl X) r0 hr0) ⟨Nat.le_of_ble_eq_true rfl, Nat.le_of_ble_eq_true rfl⟩ rfl rfl (Nat.le_of_ble_eq_true rfl) dL_law_823 ⟨Nat.le_of_ble_eq_true rfl, Nat.le_of_ble_eq_true rfl⟩) (q := 826) rfl (cs' := 87) rfl (sl' := 2729) rfl (fun v197_ h196_ => ?_)
      refine s_aload_n o 2 rfl dL_law_826 (q := 827) rfl ?_
      refine s_aload_n o 0 rfl dL_law_827 (q := 828) rfl ?_
      refine s_iload_n o 3 rfl dL_law_828 (q := 829) rfl ?_
      refine s_iconst o dL_law_829 (v := (1 : Int32)) (by decide) (q := 830) rfl ?_
      refine s_iadd o dL_law_830 (q := 831) rfl ?_
      refine s_sld o lo dL_law_831 (q := 832) rfl (fun v198_ => ?_)
      refine s_on (fun hk199_ => ?_)
      refine s_bi (fun r0 hr0 => runV o hk199_ cv_L_100 (c_X6_found (xG X) f x2 v198_ h196_ (xl X) r0 hr0) ⟨Nat.le_of_ble_eq_true rfl, Nat.le_of_ble_eq_true rfl⟩ rfl rfl (Nat.le_of_ble_eq_true rfl) dL_law_832 ⟨Nat.le_of_ble_eq_true rfl, Nat.le_of_ble_eq_true rfl⟩) (q := 835) rfl (cs' := 87) rfl (sl' := 2729) rfl (fun v201_ h200_ => ?_)
      refine s_ic_eq o (tgt := 1050) dL_law_835 (by decide) (q := 838) rfl ?_ ?_
      · exact s_sub [0, 1, 2, 3] rfl (t_L_law_1050 o lo f hk18 x1 x2 x3 h200_)
      · refine s_iconst o dL_law_838 (v := (0 : Int32)) (by decide) (q := 839) rfl ?_
        exact s_lawret o lo dL_law_839
    · refine s_aload_n o 1 rfl dL_law_840 (q := 841) rfl ?_
      refine s_aload_n o 0 rfl dL_law_841 (q := 842) rfl ?_
      refine s_iload_n o 3 rfl dL_law_842 (q := 843) rfl ?_
      refine s_iconst o dL_law_843 (v := (1 : Int32)) (by decide) (q := 844) rfl ?_
      refine s_iadd o dL_law_844 (q := 845) rfl ?_
      refine s_sld o lo dL_law_845 (q := 846) rfl (fun v202_ => ?_)
      refine s_aload_n o 0 rfl dL_law_846 (q := 847) rfl ?_
      refine s_iload_n o 3 rfl dL_law_847 (q := 848) rfl ?_
      refine s_iconst o dL_law_848 (v := (2 : Int32)) (by decide) (q := 849) rfl ?_
      refine s_iadd o dL_law_849 (q := 850) rfl ?_
      refine s_sld o lo dL_law_850 (q := 851) rfl (fun v203_ => ?_)
      refine s_aload_n o 0 rfl dL_law_851 (q := 852) rfl ?_
      refine s_iload_n o 3 rfl dL_law_852 (q := 853) rfl ?_
      refine s_iconst o dL_law_853 (v := (3 : Int32)) (by decide) (q := 854) rfl ?_
      refine s_iadd o dL_law_854 (q := 855) rfl ?_
      refine s_sld o lo dL_law_855 (q := 856) rfl (fun v204_ => ?_)
      refine s_if_eq o (tgt := 863) dL_law_856 (by decide) (q := 859) rfl ?_ ?_
      · refine s_iconst o dL_law_863 (v := (0 : Int32)) (by decide) (q := 864) rfl ?_
        exact s_sub [0, 1, 2, 3] rfl (t_L_law_864 o lo f hk18 x1 x2 x3 x1 v202_ v203_ (0 : Int32) h)
      · refine s_iconst o dL_law_859 (v := (1 : Int32)) (by decide) (q := 860) rfl ?_
        refine s_goto o (tgt := 864) dL_law_860 (by decide) ?_
        exact s_sub [0, 1, 2, 3] rfl (t_L_law_864 o lo f hk18 x1 x2 x3 x1 v202_ v203_ (1 : Int32) h)
    · refine s_aload_n o 1 rfl dL_law_899 (q := 900) rfl ?_
      refine s_on (fun hk205_ => ?_)
      refine s_bi (fun r0 hr0 => runV o hk205_ cv_L_106 (c_X5_forget (xG X) f x1 h (xl X) r0 hr0) ⟨Nat.le_of_ble_eq_true rfl, Nat.le_of_ble_eq_true rfl⟩ rfl rfl (Nat.le_of_ble_eq_true rfl) dL_law_900 ⟨Nat.le_of_ble_eq_true rfl, Nat.le_of_ble_eq_true rfl⟩) (q := 903) rfl (cs' := 87) rfl (sl' := 2729) rfl (fun v207_ h206_ => ?_)
      refine s_aload_n o 2 rfl dL_law_903 (q := 904) rfl ?_
      refine s_on (fun hk208_ => ?_)
      refine s_bi (fun r0 hr0 => runV o hk208_ cv_L_109 (c_X6_forget (xG X) f x2 h206_ (xl X) r0 hr0) ⟨Nat.le_of_ble_eq_true rfl, Nat.le_of_ble_eq_true rfl⟩ rfl rfl (Nat.le_of_ble_eq_true rfl) dL_law_904 ⟨Nat.le_of_ble_eq_true rfl, Nat.le_of_ble_eq_true rfl⟩) (q := 907) rfl (cs' := 87) rfl (sl' := 2729) rfl (fun v210_ h209_ => ?_)
      refine s_ic_eq o (tgt := 1050) dL_law_907 (by decide) (q := 910) rfl ?_ ?_
      · exact s_sub [0, 1, 2, 3] rfl (t_L_law_1050 o lo f hk18 x1 x2 x3 h209_)
      · refine s_iconst o dL_law_910 (v := (0 : Int32)) (by decide) (q := 911) rfl ?_
        exact s_lawret o lo dL_law_911
    · refine s_aload_n o 1 rfl dL_law_912 (q := 913) rfl ?_
      refine s_aload_n o 0 rfl dL_law_913 (q := 914) rfl ?_
      refine s_iload_n o 3 rfl dL_law_914 (q := 915) rfl ?_
      refine s_iconst o dL_law_915 (v := (1 : Int32)) (by decide) (q := 916) rfl ?_
      refine s_iadd o dL_law_916 (q := 917) rfl ?_
      refine s_sld o lo dL_law_917 (q := 918) rfl (fun v211_ => ?_)
      refine s_aload_n o 0 rfl dL_law_918 (q := 919) rfl ?_
      refine s_iload_n o 3 rfl dL_law_919 (q := 920) rfl ?_
      refine s_iconst o dL_law_920 (v := (2 : Int32)) (by decide) (q := 921) rfl ?_
      refine s_iadd o dL_law_921 (q := 922) rfl ?_
      refine s_sld o lo dL_law_922 (q := 923) rfl (fun v212_ => ?_)
      refine s_on (fun hk213_ => ?_)
      refine s_bi (fun r0 hr0 => runV o hk213_ cv_L_110 (c_X5_saying (xG X) f x1 v211_ v212_ h (xl X) r0 hr0) ⟨Nat.le_of_ble_eq_true rfl, Nat.le_of_ble_eq_true rfl⟩ rfl rfl (Nat.le_of_ble_eq_true rfl) dL_law_923 ⟨Nat.le_of_ble_eq_true rfl, Nat.le_of_ble_eq_true rfl⟩) (q := 926) rfl (cs' := 87) rfl (sl' := 2729) rfl (fun v215_ h214_ => ?_)
      refine s_aload_n o 2 rfl dL_law_926 (q := 927) rfl ?_
      refine s_aload_n o 0 rfl dL_law_927 (q := 928) rfl ?_
      refine s_iload_n o 3 rfl dL_law_928 (q := 929) rfl ?_
      refine s_iconst o dL_law_929 (v := (1 : Int32)) (by decide) (q := 930) rfl ?_
      refine s_iadd o dL_law_930 (q := 931) rfl ?_
      refine s_sld o lo dL_law_931 (q := 932) rfl (fun v216_ => ?_)
      refine s_aload_n o 0 rfl dL_law_932 (q := 933) rfl ?_
      refine s_iload_n o 3 rfl dL_law_933 (q := 934) rfl ?_
      refine s_iconst o dL_law_934 (v := (2 : Int32)) (by decide) (q := 935) rfl ?_
      refine s_iadd o dL_law_935 (q := 936) rfl ?_
      refine s_sld o lo dL_law_936 (q := 937) rfl (fun v217_ => ?_)
      refine s_on (fun hk218_ => ?_)
      refine s_bi (fun r0 hr0 => runV o hk218_ cv_L_113 (c_X6_saying (xG X) f x2 v216_ v217_ h214_ (xl X) r0 hr0) ⟨Nat.le_of_ble_eq_true rfl, Nat.le_of_ble_eq_true rfl⟩ rfl rfl (Nat.le_of_ble_eq_true rfl) dL_law_937 ⟨Nat.le_of_ble_eq_true rfl, Nat.le_of_ble_eq_true rfl⟩) (q := 940) rfl (cs' := 87) rfl (sl' := 2729) rfl (fun v220_ h219_ => ?_)
      refine s_ic_eq o (tgt := 1050) dL_law_940 (by decide) (q := 943) rfl ?_ ?_
      · exact s_sub [0, 1, 2, 3] rfl (t_L_law_1050 o lo f hk18 x1 x2 x3 h219_)
      · refine s_iconst o dL_law_943 (v := (0 : Int32)) (by decide) (q := 944) rfl ?_
        exact s_lawret o lo dL_law_944
    · refine s_aload_n o 1 rfl dL_law_945 (q := 946) rfl ?_
      refine s_on (fun hk221_ => ?_)
      refine s_bi (fun r0 hr0 => runV o hk221_ cv_L_114 (c_X5_loudest (xG X) f x1 h (xl X) r0 hr0) ⟨Nat.le_of_ble_eq_true rfl, Nat.le_of_ble_eq_true rfl⟩ rfl rfl (Nat.le_of_ble_eq_true rfl) dL_law_946 ⟨Nat.le_of_ble_eq_true rfl, Nat.le_of_ble_eq_true rfl⟩) (q := 949) rfl (cs' := 87) rfl (sl' := 2729) rfl (fun v223_ h222_ => ?_)
      refine s_aload_n o 2 rfl dL_law_949 (q := 950) rfl ?_
      refine s_on (fun hk224_ => ?_)
      refine s_bi (fun r0 hr0 => runV o hk224_ cv_L_117 (c_X6_loudest (xG X) f x2 h222_ (xl X) r0 hr0) ⟨Nat.le_of_ble_eq_true rfl, Nat.le_of_ble_eq_true rfl⟩ rfl rfl (Nat.le_of_ble_eq_true rfl) dL_law_950 ⟨Nat.le_of_ble_eq_true rfl, Nat.le_of_ble_eq_true rfl⟩) (q := 953) rfl (cs' := 87) rfl (sl' := 2729) rfl (fun v226_ h225_ => ?_)
      refine s_ic_eq o (tgt := 1050) dL_law_953 (by decide) (q := 956) rfl ?_ ?_
      · exact s_sub [0, 1, 2, 3] rfl (t_L_law_1050 o lo f hk18 x1 x2 x3 h225_)
      · refine s_iconst o dL_law_956 (v := (0 : Int32)) (by decide) (q := 957) rfl ?_
        exact s_lawret o lo dL_law_957
    · refine s_aload_n o 1 rfl dL_law_958 (q := 959) rfl ?_
      refine s_aload_n o 0 rfl dL_law_959 (q := 960) rfl ?_
      refine s_iload_n o 3 rfl dL_law_960 (q := 961) rfl ?_
      refine s_iconst o dL_law_961 (v := (1 : Int32)) (by decide) (q := 962) rfl ?_
      refine s_iadd o dL_law_962 (q := 963) rfl ?_
      refine s_sld o lo dL_law_963 (q := 964) rfl (fun v227_ => ?_)
      refine s_on (fun hk228_ => ?_)
      refine s_bi (fun r0 hr0 => runV o hk228_ cv_L_118 (c_X5_hunt (xG X) f x1 v227_ h (xl X) r0 hr0) ⟨Nat.le_of_ble_eq_true rfl, Nat.le_of_ble_eq_true rfl⟩ rfl rfl (Nat.le_of_ble_eq_true rfl) dL_law_964 ⟨Nat.le_of_ble_eq_true rfl, Nat.le_of_ble_eq_true rfl⟩) (q := 967) rfl (cs' := 87) rfl (sl' := 2729) rfl (fun v230_ h229_ => ?_)
      refine s_aload_n o 2 rfl dL_law_967 (q := 968) rfl ?_
      refine s_aload_n o 0 rfl dL_law_968 (q := 969) rfl ?_
      refine s_iload_n o 3 rfl dL_law_969 (q := 970) rfl ?_
      refine s_iconst o dL_law_970 (v := (1 : Int32)) (by decide) (q := 971) rfl ?_
      refine s_iadd o dL_law_971 (q := 972) rfl ?_
      refine s_sld o lo dL_law_972 (q := 973) rfl (fun v231_ => ?_)
      refine s_on (fun hk232_ => ?_)
      refine s_bi (fun r0 hr0 => runV o hk232_ cv_L_121 (c_X6_hunt (xG X) f x2 v231_ h229_ (xl X) r0 hr0) ⟨Nat.le_of_ble_eq_true rfl, Nat.le_of_ble_eq_true rfl⟩ rfl rfl (Nat.le_of_ble_eq_true rfl) dL_law_973 ⟨Nat.le_of_ble_eq_true rfl, Nat.le_of_ble_eq_true rfl⟩) (q := 976) rfl (cs' := 87) rfl (sl' := 2729) rfl (fun v234_ h233_ => ?_)
      refine s_ic_eq o (tgt := 1050) dL_law_976 (by decide) (q := 979) rfl ?_ ?_
      · exact s_sub [0, 1, 2, 3] rfl (t_L_law_1050 o lo f hk18 x1 x2 x3 h233_)
      · refine s_iconst o dL_law_979 (v := (0 : Int32)) (by decide) (q := 980) rfl ?_
        exact s_lawret o lo dL_law_980
    · refine s_aload_n o 1 rfl dL_law_981 (q := 982) rfl ?_
      refine s_aload_n o 0 rfl dL_law_982 (q := 983) rfl ?_
      refine s_iload_n o 3 rfl dL_law_983 (q := 984) rfl ?_
      refine s_iconst o dL_law_984 (v := (1 : Int32)) (by decide) (q := 985) rfl ?_
      refine s_iadd o dL_law_985 (q := 986) rfl ?_
      refine s_sld o lo dL_law_986 (q := 987) rfl (fun v235_ => ?_)
      refine s_on (fun hk236_ => ?_)
      refine s_bi (fun r0 hr0 => runV o hk236_ cv_L_122 (c_X5_seed (xG X) f x1 v235_ h (xl X) r0 hr0) ⟨Nat.le_of_ble_eq_true rfl, Nat.le_of_ble_eq_true rfl⟩ rfl rfl (Nat.le_of_ble_eq_true rfl) dL_law_987 ⟨Nat.le_of_ble_eq_true rfl, Nat.le_of_ble_eq_true rfl⟩) (q := 990) rfl (cs' := 87) rfl (sl' := 2729) rfl (fun v238_ h237_ => ?_)
      refine s_aload_n o 2 rfl dL_law_990 (q := 991) rfl ?_
      refine s_aload_n o 0 rfl dL_law_991 (q := 992) rfl ?_
      refine s_iload_n o 3 rfl dL_law_992 (q := 993) rfl ?_
      refine s_iconst o dL_law_993 (v := (1 : Int32)) (by decide) (q := 994) rfl ?_
      refine s_iadd o dL_law_994 (q := 995) rfl ?_
      refine s_sld o lo dL_law_995 (q := 996) rfl (fun v239_ => ?_)
      refine s_on (fun hk240_ => ?_)
      refine s_bi (fun r0 hr0 => runV o hk240_ cv_L_125 (c_X6_seed (xG X) f x2 v239_ h237_ (xl X) r0 hr0) ⟨Nat.le_of_ble_eq_true rfl, Nat.le_of_ble_eq_true rfl⟩ rfl rfl (Nat.le_of_ble_eq_true rfl) dL_law_996 ⟨Nat.le_of_ble_eq_true rfl, Nat.le_of_ble_eq_true rfl⟩) (q := 999) rfl (cs' := 87) rfl (sl' := 2729) rfl (fun v242_ h241_ => ?_)
      refine s_ic_eq o (tgt := 1050) dL_law_999 (by decide) (q := 1002) rfl ?_ ?_
      · exact s_sub [0, 1, 2, 3] rfl (t_L_law_1050 o lo f hk18 x1 x2 x3 h241_)
      · refine s_iconst o dL_law_1002 (v := (0 : Int32)) (by decide) (q := 1003) rfl ?_
        exact s_lawret o lo dL_law_1003
    · refine s_aload_n o 1 rfl dL_law_1004 (q := 1005) rfl ?_
      refine s_aload_n o 0 rfl dL_law_1005 (q := 1006) rfl ?_
      refine s_iload_n o 3 rfl dL_law_1006 (q := 1007) rfl ?_
      refine s_iconst o dL_law_1007 (v := (1 : Int32)) (by decide) (q := 1008) rfl ?_
      refine s_iadd o dL_law_1008 (q := 1009) rfl ?_
      refine s_sld o lo dL_law_1009 (q := 1010) rfl (fun v243_ => ?_)
      refine s_on (fun hk244_ => ?_)
      refine s_bi (fun r0 hr0 => runV o hk244_ cv_L_126 (c_X5_keep (xG X) f x1 v243_ h (xl X) r0 hr0) ⟨Nat.le_of_ble_eq_true rfl, Nat.le_of_ble_eq_true rfl⟩ rfl rfl (Nat.le_of_ble_eq_true rfl) dL_law_1010 ⟨Nat.le_of_ble_eq_true rfl, Nat.le_of_ble_eq_true rfl⟩) (q := 1013) rfl (cs' := 87) rfl (sl' := 2729) rfl (fun v246_ h245_ => ?_)
      refine s_aload_n o 2 rfl dL_law_1013 (q := 1014) rfl ?_
      refine s_aload_n o 0 rfl dL_law_1014 (q := 1015) rfl ?_
      refine s_iload_n o 3 rfl dL_law_1015 (q := 1016) rfl ?_
      refine s_iconst o dL_law_1016 (v := (1 : Int32)) (by decide) (q := 1017) rfl ?_
      refine s_iadd o dL_law_1017 (q := 1018) rfl ?_
      refine s_sld o lo dL_law_1018 (q := 1019) rfl (fun v247_ => ?_)
      refine s_on (fun hk248_ => ?_)
      refine s_bi (fun r0 hr0 => runV o hk248_ cv_L_129 (c_X6_keep (xG X) f x2 v247_ h245_ (xl X) r0 hr0) ⟨Nat.le_of_ble_eq_true rfl, Nat.le_of_ble_eq_true rfl⟩ rfl rfl (Nat.le_of_ble_eq_true rfl) dL_law_1019 ⟨Nat.le_of_ble_eq_true rfl, Nat.le_of_ble_eq_true rfl⟩) (q := 1022) rfl (cs' := 87) rfl (sl' := 2729) rfl (fun v250_ h249_ => ?_)
      refine s_ic_eq o (tgt := 1050) dL_law_1022 (by decide) (q := 1025) rfl ?_ ?_
      · exact s_sub [0, 1, 2, 3] rfl (t_L_law_1050 o lo f hk18 x1 x2 x3 h249_)
      · refine s_iconst o dL_law_1025 (v := (0 : Int32)) (by decide) (q := 1026) rfl ?_
        exact s_lawret o lo dL_law_1026
    · refine s_aload_n o 1 rfl dL_law_1027 (q := 1028) rfl ?_
      refine s_aload_n o 0 rfl dL_law_1028 (q := 1029) rfl ?_
      refine s_iload_n o 3 rfl dL_law_1029 (q := 1030) rfl ?_
      refine s_iconst o dL_law_1030 (v := (1 : Int32)) (by decide) (q := 1031) rfl ?_
      refine s_iadd o dL_law_1031 (q := 1032) rfl ?_
      refine s_sld o lo dL_law_1032 (q := 1033) rfl (fun v251_ => ?_)
      refine s_on (fun hk252_ => ?_)
      refine s_bi (fun r0 hr0 => runV o hk252_ cv_L_130 (c_X5_goBack (xG X) f x1 v251_ h (xl X) r0 hr0) ⟨Nat.le_of_ble_eq_true rfl, Nat.le_of_ble_eq_true rfl⟩ rfl rfl (Nat.le_of_ble_eq_true rfl) dL_law_1033 ⟨Nat.le_of_ble_eq_true rfl, Nat.le_of_ble_eq_true rfl⟩) (q := 1036) rfl (cs' := 87) rfl (sl' := 2729) rfl (fun v254_ h253_ => ?_)
      refine s_aload_n o 2 rfl dL_law_1036 (q := 1037) rfl ?_
      refine s_aload_n o 0 rfl dL_law_1037 (q := 1038) rfl ?_
      refine s_iload_n o 3 rfl dL_law_1038 (q := 1039) rfl ?_
      refine s_iconst o dL_law_1039 (v := (1 : Int32)) (by decide) (q := 1040) rfl ?_
      refine s_iadd o dL_law_1040 (q := 1041) rfl ?_
      refine s_sld o lo dL_law_1041 (q := 1042) rfl (fun v255_ => ?_)
      refine s_on (fun hk256_ => ?_)
      refine s_bi (fun r0 hr0 => runV o hk256_ cv_L_133 (c_X6_goBack (xG X) f x2 v255_ h253_ (xl X) r0 hr0) ⟨Nat.le_of_ble_eq_true rfl, Nat.le_of_ble_eq_true rfl⟩ rfl rfl (Nat.le_of_ble_eq_true rfl) dL_law_1042 ⟨Nat.le_of_ble_eq_true rfl, Nat.le_of_ble_eq_true rfl⟩) (q := 1045) rfl (cs' := 87) rfl (sl' := 2729) rfl (fun v258_ h257_ => ?_)
      refine s_ic_eq o (tgt := 1050) dL_law_1045 (by decide) (q := 1048) rfl ?_ ?_
      · exact s_sub [0, 1, 2, 3] rfl (t_L_law_1050 o lo f hk18 x1 x2 x3 h257_)
      · refine s_iconst o dL_law_1048 (v := (0 : Int32)) (by decide) (q := 1049) rfl ?_
        exact s_lawret o lo dL_law_1049
theorem tl_L_law_18 {X : Cx} {bS L : Nat} {sx : Nat → Int32} (o : Ok X RL cL_law 4 12 446 87 2729 (some .boolean)) (lo : LO X bS L sx) (f : Nat)  : ∀ (n : Nat) (x1 : Nat) (x2 : Nat) (x3 : Int32) (h : Hp), Sim X (z_ZL X bS) 87 2729 18 [(0, .ref bS), (1, rf (xG X) x1), (2, rf (xG X) x2), (3, .int x3)] [] h (l_L_law_18 f L sx n x1 x2 x3 h) := by
  intro n
  induction n with
  | zero => intro x1 x2 x3 h; exact s_none
  | succ n ih => intro x1 x2 x3 h; exact t_L_law_18 o lo f  ih x1 x2 x3 h
set_option maxRecDepth 100000 in
set_option maxHeartbeats 4000000 in
theorem t_L_law_0 {X : Cx} {bS L : Nat} {sx : Nat → Int32} (o : Ok X RL cL_law 4 12 446 87 2729 (some .boolean)) (lo : LO X bS L sx) (f : Nat)   (h : Hp) : Sim X (z_ZL X bS) 0 0 0 [(0, .ref bS)] [] h (b_L_law_0 f L sx h) := by
  unfold b_L_law_0
  refine s_new o nw_L_7 (N := 11) rfl (by decide) (by decide) dL_law_0 (q := 3) rfl (cs' := 1) rfl (sl' := 11) rfl (fun a1_ h2_ => ?_)
  refine s_dup o rfl dL_law_3 (q := 4) rfl ?_
  refine s_callv (fun r0 hr0 => runO o co_L_9 (c_X5_init (xG X) f a1_ h2_ (xl X) r0 hr0) ⟨Nat.le_of_ble_eq_true rfl, Nat.le_of_ble_eq_true rfl⟩ rfl rfl (Nat.le_of_ble_eq_true rfl) dL_law_4 ⟨Nat.le_of_ble_eq_true rfl, Nat.le_of_ble_eq_true rfl⟩) (q := 7) rfl (cs' := 58) rfl (sl' := 1517) rfl (fun h3_ => ?_)
  refine s_astore_n o [1, 0] (lv' := [(0, .ref bS), (1, rf (xG X) a1_)]) rfl dL_law_7 (by decide) (q := 8) rfl ?_
  refine s_new o nw_L_10 (N := 56) rfl (by decide) (by decide) dL_law_8 (q := 11) rfl (cs' := 59) rfl (sl' := 1573) rfl (fun a4_ h5_ => ?_)
  refine s_dup o rfl dL_law_11 (q := 12) rfl ?_
  refine s_callv (fun r0 hr0 => runO o co_L_12 (c_X6_init (xG X) f a4_ h5_ (xl X) r0 hr0) ⟨Nat.le_of_ble_eq_true rfl, Nat.le_of_ble_eq_true rfl⟩ rfl rfl (Nat.le_of_ble_eq_true rfl) dL_law_12 ⟨Nat.le_of_ble_eq_true rfl, Nat.le_of_ble_eq_true rfl⟩) (q := 15) rfl (cs' := 87) rfl (sl' := 2729) rfl (fun h6_ => ?_)
  refine s_astore_n o [1, 2, 0] (lv' := [(0, .ref bS), (1, rf (xG X) a1_), (2, rf (xG X) a4_)]) rfl dL_law_15 (by decide) (q := 16) rfl ?_
  refine s_iconst o dL_law_16 (v := (0 : Int32)) (by decide) (q := 17) rfl ?_
  refine s_istore_n o [1, 2, 3, 0] (lv' := [(0, .ref bS), (1, rf (xG X) a1_), (2, rf (xG X) a4_), (3, .int (0 : Int32))]) rfl dL_law_17 (by decide) (q := 18) rfl ?_
  exact s_sub [0, 1, 2, 3] rfl (tl_L_law_18 o lo f f a1_ a4_ (0 : Int32) h6_)
