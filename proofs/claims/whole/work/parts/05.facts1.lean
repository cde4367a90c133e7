/-! looked at by program: the words of each method -/
set_option maxRecDepth 100000 in
theorem zm_0 : zMk 0 := ⟨zmem (p := 369) rfl rfl, zmem (p := 134) rfl rfl, ⟨by decide, by decide⟩, by decide, rfl, ⟨zmem (p := 368) rfl rfl, rfl, rfl⟩⟩
set_option maxRecDepth 100000 in
theorem zm_1 : zMk 1 := ⟨zmem (p := 1403) rfl rfl, zmem (p := 134) rfl rfl, ⟨by decide, by decide⟩, by decide, rfl, ⟨zmem (p := 1401) rfl rfl, zmem (p := 1402) rfl rfl⟩⟩
set_option maxRecDepth 100000 in
theorem zm_2 : zMk 2 := ⟨zmem (p := 1413) rfl rfl, zmem (p := 134) rfl rfl, ⟨by decide, by decide⟩, by decide, rfl, zmem (p := 1412) rfl rfl⟩
set_option maxRecDepth 100000 in
theorem zm_3 : zMk 3 := ⟨zmem (p := 1472) rfl rfl, zmem (p := 134) rfl rfl, ⟨by decide, by decide⟩, by decide, rfl, ⟨zmem (p := 1470) rfl rfl, zmem (p := 1471) rfl rfl⟩⟩
set_option maxRecDepth 100000 in
theorem zm_4 : zMk 4 := ⟨zmem (p := 1421) rfl rfl, zmem (p := 134) rfl rfl, ⟨by decide, by decide⟩, by decide, rfl, ⟨zmem (p := 1420) rfl rfl, zmem (p := 51) rfl rfl⟩⟩
set_option maxRecDepth 100000 in
theorem zm_5 : zMk 5 := ⟨zmem (p := 1425) rfl rfl, zmem (p := 134) rfl rfl, ⟨by decide, by decide⟩, by decide, rfl, ⟨zmem (p := 1424) rfl rfl, zmem (p := 52) rfl rfl⟩⟩
set_option maxRecDepth 100000 in
theorem zm_6 : zMk 6 := ⟨zmem (p := 1417) rfl rfl, zmem (p := 134) rfl rfl, ⟨by decide, by decide⟩, by decide, rfl, ⟨zmem (p := 1415) rfl rfl, zmem (p := 1416) rfl rfl⟩⟩
set_option maxRecDepth 100000 in
theorem zm_7 : zMk 7 := ⟨zmem (p := 1538) rfl rfl, zmem (p := 134) rfl rfl, ⟨by decide, by decide⟩, by decide, rfl, ⟨zmem (p := 1536) rfl rfl, zmem (p := 1537) rfl rfl⟩⟩
set_option maxRecDepth 100000 in
theorem zm_8 : zMk 8 := ⟨zmem (p := 1429) rfl rfl, zmem (p := 134) rfl rfl, ⟨by decide, by decide⟩, by decide, rfl, ⟨zmem (p := 1427) rfl rfl, zmem (p := 1428) rfl rfl⟩⟩
set_option maxRecDepth 100000 in
theorem zm_9 : zMk 9 := ⟨zmem (p := 1457) rfl rfl, zmem (p := 134) rfl rfl, ⟨by decide, by decide⟩, by decide, rfl, ⟨zmem (p := 1455) rfl rfl, zmem (p := 1456) rfl rfl⟩⟩
set_option maxRecDepth 100000 in
theorem zm_10 : zMk 10 := ⟨zmem (p := 1448) rfl rfl, zmem (p := 134) rfl rfl, ⟨by decide, by decide⟩, by decide, rfl, ⟨zmem (p := 1447) rfl rfl, zmem (p := 53) rfl rfl⟩⟩
set_option maxRecDepth 100000 in
theorem zm_11 : zMk 11 := ⟨zmem (p := 1444) rfl rfl, zmem (p := 134) rfl rfl, ⟨by decide, by decide⟩, by decide, rfl, ⟨zmem (p := 1442) rfl rfl, zmem (p := 1443) rfl rfl⟩⟩
set_option maxRecDepth 100000 in
theorem zm_12 : zMk 12 := ⟨zmem (p := 1488) rfl rfl, zmem (p := 134) rfl rfl, ⟨by decide, by decide⟩, by decide, rfl, ⟨zmem (p := 1486) rfl rfl, zmem (p := 1487) rfl rfl⟩⟩
set_option maxRecDepth 100000 in
theorem zm_13 : zMk 13 := ⟨zmem (p := 1493) rfl rfl, zmem (p := 134) rfl rfl, ⟨by decide, by decide⟩, by decide, rfl, ⟨zmem (p := 1491) rfl rfl, zmem (p := 1492) rfl rfl⟩⟩
set_option maxRecDepth 100000 in
theorem zm_14 : zMk 14 := ⟨zmem (p := 192) rfl rfl, zmem (p := 129) rfl rfl, ⟨by decide, by decide⟩, by decide, rfl, ⟨zmem (p := 191) rfl rfl, rfl, rfl⟩⟩
set_option maxRecDepth 100000 in
theorem zm_15 : zMk 15 := ⟨zmem (p := 763) rfl rfl, zmem (p := 129) rfl rfl, ⟨by decide, by decide⟩, by decide, rfl, ⟨zmem (p := 761) rfl rfl, zmem (p := 762) rfl rfl⟩⟩
set_option maxRecDepth 100000 in
theorem zm_16 : zMk 16 := ⟨zmem (p := 880) rfl rfl, zmem (p := 129) rfl rfl, ⟨by decide, by decide⟩, by decide, rfl, ⟨zmem (p := 878) rfl rfl, zmem (p := 879) rfl rfl⟩⟩
set_option maxRecDepth 100000 in
theorem zm_17 : zMk 17 := ⟨zmem (p := 792) rfl rfl, zmem (p := 129) rfl rfl, ⟨by decide, by decide⟩, by decide, rfl, ⟨zmem (p := 790) rfl rfl, zmem (p := 791) rfl rfl⟩⟩
set_option maxRecDepth 100000 in
theorem zm_18 : zMk 18 := ⟨zmem (p := 796) rfl rfl, zmem (p := 129) rfl rfl, ⟨by decide, by decide⟩, by decide, rfl, ⟨zmem (p := 794) rfl rfl, zmem (p := 795) rfl rfl⟩⟩
set_option maxRecDepth 100000 in
theorem zm_19 : zMk 19 := ⟨zmem (p := 1196) rfl rfl, zmem (p := 129) rfl rfl, ⟨by decide, by decide⟩, by decide, rfl, ⟨zmem (p := 1194) rfl rfl, zmem (p := 1195) rfl rfl⟩⟩
set_option maxRecDepth 100000 in
theorem zm_20 : zMk 20 := ⟨zmem (p := 834) rfl rfl, zmem (p := 129) rfl rfl, ⟨by decide, by decide⟩, by decide, rfl, ⟨zmem (p := 832) rfl rfl, zmem (p := 833) rfl rfl⟩⟩
set_option maxRecDepth 100000 in
theorem zm_21 : zMk 21 := ⟨zmem (p := 1012) rfl rfl, zmem (p := 129) rfl rfl, ⟨by decide, by decide⟩, by decide, rfl, ⟨zmem (p := 1010) rfl rfl, zmem (p := 1011) rfl rfl⟩⟩
set_option maxRecDepth 100000 in
theorem zm_22 : zMk 22 := ⟨zmem (p := 985) rfl rfl, zmem (p := 129) rfl rfl, ⟨by decide, by decide⟩, by decide, rfl, ⟨zmem (p := 983) rfl rfl, zmem (p := 984) rfl rfl⟩⟩
set_option maxRecDepth 100000 in
theorem zm_23 : zMk 23 := ⟨zmem (p := 815) rfl rfl, zmem (p := 129) rfl rfl, ⟨by decide, by decide⟩, by decide, rfl, ⟨zmem (p := 813) rfl rfl, zmem (p := 814) rfl rfl⟩⟩
set_option maxRecDepth 100000 in
theorem zm_24 : zMk 24 := ⟨zmem (p := 830) rfl rfl, zmem (p := 129) rfl rfl, ⟨by decide, by decide⟩, by decide, rfl, ⟨zmem (p := 828) rfl rfl, zmem (p := 829) rfl rfl⟩⟩
set_option maxRecDepth 100000 in
theorem zm_25 : zMk 25 := ⟨zmem (p := 838) rfl rfl, zmem (p := 129) rfl rfl, ⟨by decide, by decide⟩, by decide, rfl, ⟨zmem (p := 836) rfl rfl, zmem (p := 837) rfl rfl⟩⟩
set_option maxRecDepth 100000 in
theorem zm_26 : zMk 26 := ⟨zmem (p := 842) rfl rfl, zmem (p := 129) rfl rfl, ⟨by decide, by decide⟩, by decide, rfl, ⟨zmem (p := 840) rfl rfl, zmem (p := 841) rfl rfl⟩⟩
set_option maxRecDepth 100000 in
theorem zm_27 : zMk 27 := ⟨zmem (p := 846) rfl rfl, zmem (p := 129) rfl rfl, ⟨by decide, by decide⟩, by decide, rfl, ⟨zmem (p := 844) rfl rfl, zmem (p := 845) rfl rfl⟩⟩
set_option maxRecDepth 100000 in
theorem zm_28 : zMk 28 := ⟨zmem (p := 850) rfl rfl, zmem (p := 129) rfl rfl, ⟨by decide, by decide⟩, by decide, rfl, ⟨zmem (p := 848) rfl rfl, zmem (p := 849) rfl rfl⟩⟩
set_option maxRecDepth 100000 in
theorem zm_29 : zMk 29 := ⟨zmem (p := 854) rfl rfl, zmem (p := 129) rfl rfl, ⟨by decide, by decide⟩, by decide, rfl, ⟨zmem (p := 853) rfl rfl, zmem (p := 17) rfl rfl⟩⟩
set_option maxRecDepth 100000 in
theorem zm_30 : zMk 30 := ⟨zmem (p := 823) rfl rfl, zmem (p := 129) rfl rfl, ⟨by decide, by decide⟩, by decide, rfl, ⟨zmem (p := 821) rfl rfl, zmem (p := 822) rfl rfl⟩⟩
set_option maxRecDepth 100000 in
theorem zm_31 : zMk 31 := ⟨zmem (p := 804) rfl rfl, zmem (p := 129) rfl rfl, ⟨by decide, by decide⟩, by decide, rfl, ⟨zmem (p := 802) rfl rfl, zmem (p := 803) rfl rfl⟩⟩
set_option maxRecDepth 100000 in
theorem zm_32 : zMk 32 := ⟨zmem (p := 955) rfl rfl, zmem (p := 129) rfl rfl, ⟨by decide, by decide⟩, by decide, rfl, ⟨zmem (p := 953) rfl rfl, zmem (p := 954) rfl rfl⟩⟩
set_option maxRecDepth 100000 in
theorem zm_33 : zMk 33 := ⟨zmem (p := 1184) rfl rfl, zmem (p := 129) rfl rfl, ⟨by decide, by decide⟩, by decide, rfl, ⟨zmem (p := 1182) rfl rfl, zmem (p := 1183) rfl rfl⟩⟩
set_option maxRecDepth 100000 in
theorem zm_34 : zMk 34 := ⟨zmem (p := 948) rfl rfl, zmem (p := 129) rfl rfl, ⟨by decide, by decide⟩, by decide, rfl, ⟨zmem (p := 946) rfl rfl, zmem (p := 947) rfl rfl⟩⟩
set_option maxRecDepth 100000 in
theorem zm_35 : zMk 35 := ⟨zmem (p := 944) rfl rfl, zmem (p := 129) rfl rfl, ⟨by decide, by decide⟩, by decide, rfl, ⟨zmem (p := 942) rfl rfl, zmem (p := 943) rfl rfl⟩⟩
set_option maxRecDepth 100000 in
theorem zm_36 : zMk 36 := ⟨zmem (p := 174) rfl rfl, zmem (p := 128) rfl rfl, ⟨by decide, by decide⟩, by decide, rfl, ⟨zmem (p := 173) rfl rfl, rfl, rfl⟩⟩
set_option maxRecDepth 100000 in
theorem zm_37 : zMk 37 := ⟨zmem (p := 1032) rfl rfl, zmem (p := 128) rfl rfl, ⟨by decide, by decide⟩, by decide, rfl, ⟨zmem (p := 1030) rfl rfl, zmem (p := 1031) rfl rfl⟩⟩
set_option maxRecDepth 100000 in
theorem zm_38 : zMk 38 := ⟨zmem (p := 1048) rfl rfl, zmem (p := 128) rfl rfl, ⟨by decide, by decide⟩, by decide, rfl, ⟨zmem (p := 1047) rfl rfl, zmem (p := 25) rfl rfl⟩⟩
set_option maxRecDepth 100000 in
theorem zm_39 : zMk 39 := ⟨zmem (p := 1037) rfl rfl, zmem (p := 128) rfl rfl, ⟨by decide, by decide⟩, by decide, rfl, ⟨zmem (p := 1036) rfl rfl, zmem (p := 24) rfl rfl⟩⟩
set_option maxRecDepth 100000 in
theorem zm_40 : zMk 40 := ⟨zmem (p := 1062) rfl rfl, zmem (p := 128) rfl rfl, ⟨by decide, by decide⟩, by decide, rfl, ⟨zmem (p := 1060) rfl rfl, zmem (p := 1061) rfl rfl⟩⟩
set_option maxRecDepth 100000 in
theorem zm_41 : zMk 41 := ⟨zmem (p := 1080) rfl rfl, zmem (p := 128) rfl rfl, ⟨by decide, by decide⟩, by decide, rfl, ⟨zmem (p := 1078) rfl rfl, zmem (p := 1079) rfl rfl⟩⟩
set_option maxRecDepth 100000 in
theorem zm_42 : zMk 42 := ⟨zmem (p := 324) rfl rfl, zmem (p := 133) rfl rfl, ⟨by decide, by decide⟩, by decide, rfl, ⟨zmem (p := 323) rfl rfl, rfl, rfl⟩⟩
set_option maxRecDepth 100000 in
theorem zm_43 : zMk 43 := ⟨zmem (p := 909) rfl rfl, zmem (p := 133) rfl rfl, ⟨by decide, by decide⟩, by decide, rfl, ⟨zmem (p := 907) rfl rfl, zmem (p := 908) rfl rfl⟩⟩
set_option maxRecDepth 100000 in
theorem zm_44 : zMk 44 := ⟨zmem (p := 1546) rfl rfl, zmem (p := 133) rfl rfl, ⟨by decide, by decide⟩, by decide, rfl, ⟨zmem (p := 1544) rfl rfl, zmem (p := 1545) rfl rfl⟩⟩
set_option maxRecDepth 100000 in
theorem zm_45 : zMk 45 := ⟨zmem (p := 1265) rfl rfl, zmem (p := 133) rfl rfl, ⟨by decide, by decide⟩, by decide, rfl, ⟨zmem (p := 1263) rfl rfl, zmem (p := 1264) rfl rfl⟩⟩
set_option maxRecDepth 100000 in
theorem zm_46 : zMk 46 := ⟨zmem (p := 1257) rfl rfl, zmem (p := 133) rfl rfl, ⟨by decide, by decide⟩, by decide, rfl, ⟨zmem (p := 1255) rfl rfl, zmem (p := 1256) rfl rfl⟩⟩
set_option maxRecDepth 100000 in
theorem zm_47 : zMk 47 := ⟨zmem (p := 1249) rfl rfl, zmem (p := 133) rfl rfl, ⟨by decide, by decide⟩, by decide, rfl, ⟨zmem (p := 1247) rfl rfl, zmem (p := 1248) rfl rfl⟩⟩
set_option maxRecDepth 100000 in
theorem zm_48 : zMk 48 := ⟨zmem (p := 1269) rfl rfl, zmem (p := 133) rfl rfl, ⟨by decide, by decide⟩, by decide, rfl, ⟨zmem (p := 1267) rfl rfl, zmem (p := 1268) rfl rfl⟩⟩
set_option maxRecDepth 100000 in
theorem zm_49 : zMk 49 := ⟨zmem (p := 1277) rfl rfl, zmem (p := 133) rfl rfl, ⟨by decide, by decide⟩, by decide, rfl, ⟨zmem (p := 1276) rfl rfl, zmem (p := 39) rfl rfl⟩⟩
set_option maxRecDepth 100000 in
theorem zm_50 : zMk 50 := ⟨zmem (p := 1283) rfl rfl, zmem (p := 133) rfl rfl, ⟨by decide, by decide⟩, by decide, rfl, ⟨zmem (p := 1282) rfl rfl, zmem (p := 40) rfl rfl⟩⟩
set_option maxRecDepth 100000 in
theorem zm_51 : zMk 51 := ⟨zmem (p := 1294) rfl rfl, zmem (p := 133) rfl rfl, ⟨by decide, by decide⟩, by decide, rfl, ⟨zmem (p := 1293) rfl rfl, zmem (p := 41) rfl rfl⟩⟩
set_option maxRecDepth 100000 in
theorem zm_52 : zMk 52 := ⟨zmem (p := 1299) rfl rfl, zmem (p := 133) rfl rfl, ⟨by decide, by decide⟩, by decide, rfl, ⟨zmem (p := 1298) rfl rfl, zmem (p := 42) rfl rfl⟩⟩
set_option maxRecDepth 100000 in
theorem zm_53 : zMk 53 := ⟨zmem (p := 1304) rfl rfl, zmem (p := 133) rfl rfl, ⟨by decide, by decide⟩, by decide, rfl, ⟨zmem (p := 1303) rfl rfl, zmem (p := 43) rfl rfl⟩⟩
set_option maxRecDepth 100000 in
theorem zm_54 : zMk 54 := ⟨zmem (p := 1312) rfl rfl, zmem (p := 133) rfl rfl, ⟨by decide, by decide⟩, by decide, rfl, ⟨zmem (p := 1310) rfl rfl, zmem (p := 1311) rfl rfl⟩⟩
set_option maxRecDepth 100000 in
theorem zm_55 : zMk 55 := ⟨zmem (p := 1308) rfl rfl, zmem (p := 133) rfl rfl, ⟨by decide, by decide⟩, by decide, rfl, ⟨zmem (p := 1306) rfl rfl, zmem (p := 1307) rfl rfl⟩⟩
set_option maxRecDepth 100000 in
theorem zm_56 : zMk 56 := ⟨zmem (p := 1325) rfl rfl, zmem (p := 133) rfl rfl, ⟨by decide, by decide⟩, by decide, rfl, ⟨zmem (p := 1323) rfl rfl, zmem (p := 1324) rfl rfl⟩⟩
set_option maxRecDepth 100000 in
theorem zm_57 : zMk 57 := ⟨zmem (p := 394) rfl rfl, zmem (p := 135) rfl rfl, ⟨by decide, by decide⟩, by decide, rfl, ⟨zmem (p := 393) rfl rfl, rfl, rfl⟩⟩
set_option maxRecDepth 100000 in
theorem zm_58 : zMk 58 := ⟨zmem (p := 1484) rfl rfl, zmem (p := 135) rfl rfl, ⟨by decide, by decide⟩, by decide, rfl, ⟨zmem (p := 1482) rfl rfl, zmem (p := 1483) rfl rfl⟩⟩
set_option maxRecDepth 100000 in
theorem zm_59 : zMk 59 := ⟨zmem (p := 1530) rfl rfl, zmem (p := 135) rfl rfl, ⟨by decide, by decide⟩, by decide, rfl, ⟨zmem (p := 1528) rfl rfl, zmem (p := 1529) rfl rfl⟩⟩
set_option maxRecDepth 100000 in
theorem zm_60 : zMk 60 := ⟨zmem (p := 1505) rfl rfl, zmem (p := 135) rfl rfl, ⟨by decide, by decide⟩, by decide, rfl, ⟨zmem (p := 1504) rfl rfl, zmem (p := 56) rfl rfl⟩⟩
set_option maxRecDepth 100000 in
theorem zm_61 : zMk 61 := ⟨zmem (p := 1517) rfl rfl, zmem (p := 135) rfl rfl, ⟨by decide, by decide⟩, by decide, rfl, ⟨zmem (p := 1516) rfl rfl, zmem (p := 59) rfl rfl⟩⟩
set_option maxRecDepth 100000 in
theorem zm_62 : zMk 62 := ⟨zmem (p := 1521) rfl rfl, zmem (p := 135) rfl rfl, ⟨by decide, by decide⟩, by decide, rfl, ⟨zmem (p := 1520) rfl rfl, zmem (p := 60) rfl rfl⟩⟩
set_option maxRecDepth 100000 in
theorem zm_63 : zMk 63 := ⟨zmem (p := 1497) rfl rfl, zmem (p := 135) rfl rfl, ⟨by decide, by decide⟩, by decide, rfl, ⟨zmem (p := 1496) rfl rfl, zmem (p := 54) rfl rfl⟩⟩
set_option maxRecDepth 100000 in
theorem zm_64 : zMk 64 := ⟨zmem (p := 1501) rfl rfl, zmem (p := 135) rfl rfl, ⟨by decide, by decide⟩, by decide, rfl, ⟨zmem (p := 1500) rfl rfl, zmem (p := 55) rfl rfl⟩⟩
set_option maxRecDepth 100000 in
theorem zm_65 : zMk 65 := ⟨zmem (p := 1509) rfl rfl, zmem (p := 135) rfl rfl, ⟨by decide, by decide⟩, by decide, rfl, ⟨zmem (p := 1508) rfl rfl, zmem (p := 57) rfl rfl⟩⟩
set_option maxRecDepth 100000 in
theorem zm_66 : zMk 66 := ⟨zmem (p := 1513) rfl rfl, zmem (p := 135) rfl rfl, ⟨by decide, by decide⟩, by decide, rfl, ⟨zmem (p := 1512) rfl rfl, zmem (p := 58) rfl rfl⟩⟩
set_option maxRecDepth 100000 in
theorem zm_67 : zMk 67 := ⟨zmem (p := 284) rfl rfl, zmem (p := 132) rfl rfl, ⟨by decide, by decide⟩, by decide, rfl, ⟨zmem (p := 283) rfl rfl, rfl, rfl⟩⟩
set_option maxRecDepth 100000 in
theorem zm_68 : zMk 68 := ⟨zmem (p := 1192) rfl rfl, zmem (p := 132) rfl rfl, ⟨by decide, by decide⟩, by decide, rfl, ⟨zmem (p := 1190) rfl rfl, zmem (p := 1191) rfl rfl⟩⟩
set_option maxRecDepth 100000 in
theorem zm_69 : zMk 69 := ⟨zmem (p := 1212) rfl rfl, zmem (p := 132) rfl rfl, ⟨by decide, by decide⟩, by decide, rfl, ⟨zmem (p := 1211) rfl rfl, zmem (p := 38) rfl rfl⟩⟩
set_option maxRecDepth 100000 in
theorem zm_70 : zMk 70 := ⟨zmem (p := 1202) rfl rfl, zmem (p := 132) rfl rfl, ⟨by decide, by decide⟩, by decide, rfl, ⟨zmem (p := 1201) rfl rfl, zmem (p := 36) rfl rfl⟩⟩
set_option maxRecDepth 100000 in
theorem zm_71 : zMk 71 := ⟨zmem (p := 1208) rfl rfl, zmem (p := 132) rfl rfl, ⟨by decide, by decide⟩, by decide, rfl, ⟨zmem (p := 1207) rfl rfl, zmem (p := 37) rfl rfl⟩⟩
set_option maxRecDepth 100000 in
theorem zm_72 : zMk 72 := ⟨zmem (p := 1241) rfl rfl, zmem (p := 132) rfl rfl, ⟨by decide, by decide⟩, by decide, rfl, ⟨zmem (p := 1239) rfl rfl, zmem (p := 1240) rfl rfl⟩⟩
set_option maxRecDepth 100000 in
theorem zm_73 : zMk 73 := ⟨zmem (p := 1289) rfl rfl, zmem (p := 132) rfl rfl, ⟨by decide, by decide⟩, by decide, rfl, ⟨zmem (p := 1287) rfl rfl, zmem (p := 1288) rfl rfl⟩⟩
set_option maxRecDepth 100000 in
theorem zm_74 : zMk 74 := ⟨zmem (p := 1233) rfl rfl, zmem (p := 132) rfl rfl, ⟨by decide, by decide⟩, by decide, rfl, ⟨zmem (p := 1231) rfl rfl, zmem (p := 1232) rfl rfl⟩⟩
set_option maxRecDepth 100000 in
theorem zm_75 : zMk 75 := ⟨zmem (p := 1224) rfl rfl, zmem (p := 132) rfl rfl, ⟨by decide, by decide⟩, by decide, rfl, ⟨zmem (p := 1222) rfl rfl, zmem (p := 1223) rfl rfl⟩⟩
set_option maxRecDepth 100000 in
theorem zm_76 : zMk 76 := ⟨zmem (p := 160) rfl rfl, zmem (p := 127) rfl rfl, ⟨by decide, by decide⟩, by decide, rfl, ⟨zmem (p := 159) rfl rfl, rfl, rfl⟩⟩
set_option maxRecDepth 100000 in
theorem zm_77 : zMk 77 := ⟨zmem (p := 751) rfl rfl, zmem (p := 127) rfl rfl, ⟨by decide, by decide⟩, by decide, rfl, zmem (p := 750) rfl rfl⟩
set_option maxRecDepth 100000 in
theorem zm_78 : zMk 78 := ⟨zmem (p := 1042) rfl rfl, zmem (p := 127) rfl rfl, ⟨by decide, by decide⟩, by decide, rfl, ⟨zmem (p := 1040) rfl rfl, zmem (p := 1041) rfl rfl⟩⟩
set_option maxRecDepth 100000 in
theorem zm_79 : zMk 79 := ⟨zmem (p := 973) rfl rfl, zmem (p := 127) rfl rfl, ⟨by decide, by decide⟩, by decide, rfl, ⟨zmem (p := 971) rfl rfl, zmem (p := 972) rfl rfl⟩⟩
set_option maxRecDepth 100000 in
theorem zm_80 : zMk 80 := ⟨zmem (p := 896) rfl rfl, zmem (p := 127) rfl rfl, ⟨by decide, by decide⟩, by decide, rfl, ⟨zmem (p := 895) rfl rfl, zmem (p := 22) rfl rfl⟩⟩
set_option maxRecDepth 100000 in
theorem zm_81 : zMk 81 := ⟨zmem (p := 1024) rfl rfl, zmem (p := 127) rfl rfl, ⟨by decide, by decide⟩, by decide, rfl, ⟨zmem (p := 1022) rfl rfl, zmem (p := 1023) rfl rfl⟩⟩
set_option maxRecDepth 100000 in
theorem zm_82 : zMk 82 := ⟨zmem (p := 977) rfl rfl, zmem (p := 127) rfl rfl, ⟨by decide, by decide⟩, by decide, rfl, ⟨zmem (p := 975) rfl rfl, zmem (p := 976) rfl rfl⟩⟩
set_option maxRecDepth 100000 in
theorem zm_83 : zMk 83 := ⟨zmem (p := 1016) rfl rfl, zmem (p := 127) rfl rfl, ⟨by decide, by decide⟩, by decide, rfl, ⟨zmem (p := 1014) rfl rfl, zmem (p := 1015) rfl rfl⟩⟩
set_option maxRecDepth 100000 in
theorem zm_84 : zMk 84 := ⟨zmem (p := 1066) rfl rfl, zmem (p := 127) rfl rfl, ⟨by decide, by decide⟩, by decide, rfl, ⟨zmem (p := 1064) rfl rfl, zmem (p := 1065) rfl rfl⟩⟩
set_option maxRecDepth 100000 in
theorem zm_85 : zMk 85 := ⟨zmem (p := 889) rfl rfl, zmem (p := 127) rfl rfl, ⟨by decide, by decide⟩, by decide, rfl, ⟨zmem (p := 887) rfl rfl, zmem (p := 888) rfl rfl⟩⟩
set_option maxRecDepth 100000 in
theorem zm_86 : zMk 86 := ⟨zmem (p := 1001) rfl rfl, zmem (p := 127) rfl rfl, ⟨by decide, by decide⟩, by decide, rfl, ⟨zmem (p := 999) rfl rfl, zmem (p := 1000) rfl rfl⟩⟩
set_option maxRecDepth 100000 in
theorem zm_87 : zMk 87 := ⟨zmem (p := 997) rfl rfl, zmem (p := 127) rfl rfl, ⟨by decide, by decide⟩, by decide, rfl, ⟨zmem (p := 995) rfl rfl, zmem (p := 996) rfl rfl⟩⟩
set_option maxRecDepth 100000 in
theorem zm_88 : zMk 88 := ⟨zmem (p := 1220) rfl rfl, zmem (p := 127) rfl rfl, ⟨by decide, by decide⟩, by decide, rfl, ⟨zmem (p := 1218) rfl rfl, zmem (p := 1219) rfl rfl⟩⟩
set_option maxRecDepth 100000 in
theorem zm_89 : zMk 89 := ⟨zmem (p := 989) rfl rfl, zmem (p := 127) rfl rfl, ⟨by decide, by decide⟩, by decide, rfl, ⟨zmem (p := 987) rfl rfl, zmem (p := 988) rfl rfl⟩⟩
set_option maxRecDepth 100000 in
theorem zm_90 : zMk 90 := ⟨zmem (p := 255) rfl rfl, zmem (p := 131) rfl rfl, ⟨by decide, by decide⟩, by decide, rfl, ⟨zmem (p := 254) rfl rfl, rfl, rfl⟩⟩
set_option maxRecDepth 100000 in
theorem zm_91 : zMk 91 := ⟨zmem (p := 1091) rfl rfl, zmem (p := 131) rfl rfl, ⟨by decide, by decide⟩, by decide, rfl, ⟨zmem (p := 1089) rfl rfl, zmem (p := 1090) rfl rfl⟩⟩
set_option maxRecDepth 100000 in
theorem zm_92 : zMk 92 := ⟨zmem (p := 1112) rfl rfl, zmem (p := 131) rfl rfl, ⟨by decide, by decide⟩, by decide, rfl, ⟨zmem (p := 1110) rfl rfl, zmem (p := 1111) rfl rfl⟩⟩
set_option maxRecDepth 100000 in
theorem zm_93 : zMk 93 := ⟨zmem (p := 1097) rfl rfl, zmem (p := 131) rfl rfl, ⟨by decide, by decide⟩, by decide, rfl, ⟨zmem (p := 1096) rfl rfl, zmem (p := 27) rfl rfl⟩⟩
set_option maxRecDepth 100000 in
theorem zm_94 : zMk 94 := ⟨zmem (p := 1104) rfl rfl, zmem (p := 131) rfl rfl, ⟨by decide, by decide⟩, by decide, rfl, ⟨zmem (p := 1103) rfl rfl, zmem (p := 28) rfl rfl⟩⟩
set_option maxRecDepth 100000 in
theorem zm_95 : zMk 95 := ⟨zmem (p := 1340) rfl rfl, zmem (p := 131) rfl rfl, ⟨by decide, by decide⟩, by decide, rfl, ⟨zmem (p := 1338) rfl rfl, zmem (p := 1339) rfl rfl⟩⟩
set_option maxRecDepth 100000 in
theorem zm_96 : zMk 96 := ⟨zmem (p := 1363) rfl rfl, zmem (p := 131) rfl rfl, ⟨by decide, by decide⟩, by decide, rfl, ⟨zmem (p := 1361) rfl rfl, zmem (p := 1362) rfl rfl⟩⟩
set_option maxRecDepth 100000 in
theorem zm_97 : zMk 97 := ⟨zmem (p := 1367) rfl rfl, zmem (p := 131) rfl rfl, ⟨by decide, by decide⟩, by decide, rfl, ⟨zmem (p := 1366) rfl rfl, zmem (p := 47) rfl rfl⟩⟩
set_option maxRecDepth 100000 in
theorem zm_98 : zMk 98 := ⟨zmem (p := 1349) rfl rfl, zmem (p := 131) rfl rfl, ⟨by decide, by decide⟩, by decide, rfl, zmem (p := 1348) rfl rfl⟩
set_option maxRecDepth 100000 in
theorem zm_99 : zMk 99 := ⟨zmem (p := 1354) rfl rfl, zmem (p := 131) rfl rfl, ⟨by decide, by decide⟩, by decide, rfl, ⟨zmem (p := 1353) rfl rfl, zmem (p := 46) rfl rfl⟩⟩
set_option maxRecDepth 100000 in
theorem zm_100 : zMk 100 := ⟨zmem (p := 1346) rfl rfl, zmem (p := 131) rfl rfl, ⟨by decide, by decide⟩, by decide, rfl, ⟨zmem (p := 1345) rfl rfl, zmem (p := 45) rfl rfl⟩⟩
set_option maxRecDepth 100000 in
theorem zm_101 : zMk 101 := ⟨zmem (p := 1375) rfl rfl, zmem (p := 131) rfl rfl, ⟨by decide, by decide⟩, by decide, rfl, ⟨zmem (p := 1373) rfl rfl, zmem (p := 1374) rfl rfl⟩⟩
set_option maxRecDepth 100000 in
theorem zm_102 : zMk 102 := ⟨zmem (p := 1380) rfl rfl, zmem (p := 131) rfl rfl, ⟨by decide, by decide⟩, by decide, rfl, ⟨zmem (p := 1379) rfl rfl, zmem (p := 48) rfl rfl⟩⟩
set_option maxRecDepth 100000 in
theorem zm_103 : zMk 103 := ⟨zmem (p := 1386) rfl rfl, zmem (p := 131) rfl rfl, ⟨by decide, by decide⟩, by decide, rfl, ⟨zmem (p := 1385) rfl rfl, zmem (p := 49) rfl rfl⟩⟩
set_option maxRecDepth 100000 in
theorem zm_104 : zMk 104 := ⟨zmem (p := 1391) rfl rfl, zmem (p := 131) rfl rfl, ⟨by decide, by decide⟩, by decide, rfl, ⟨zmem (p := 1390) rfl rfl, zmem (p := 50) rfl rfl⟩⟩
set_option maxRecDepth 100000 in
theorem zm_105 : zMk 105 := ⟨zmem (p := 538) rfl rfl, zmem (p := 141) rfl rfl, ⟨by decide, by decide⟩, by decide, rfl, ⟨zmem (p := 537) rfl rfl, rfl, rfl⟩⟩
set_option maxRecDepth 100000 in
theorem zm_106 : zMk 106 := ⟨zmem (p := 876) rfl rfl, zmem (p := 141) rfl rfl, ⟨by decide, by decide⟩, by decide, (Or.inl ⟨_, rfl⟩), ⟨zmem (p := 874) rfl rfl, zmem (p := 875) rfl rfl⟩⟩
set_option maxRecDepth 100000 in
theorem zm_107 : zMk 107 := ⟨zmem (p := 872) rfl rfl, zmem (p := 141) rfl rfl, ⟨by decide, by decide⟩, by decide, rfl, ⟨zmem (p := 870) rfl rfl, zmem (p := 871) rfl rfl⟩⟩
set_option maxRecDepth 100000 in
theorem zm_108 : zMk 108 := ⟨zmem (p := 736) rfl rfl, zmem (p := 141) rfl rfl, ⟨by decide, by decide⟩, by decide, rfl, ⟨zmem (p := 734) rfl rfl, zmem (p := 735) rfl rfl⟩⟩
set_option maxRecDepth 100000 in
theorem zm_109 : zMk 109 := ⟨zmem (p := 759) rfl rfl, zmem (p := 141) rfl rfl, ⟨by decide, by decide⟩, by decide, rfl, ⟨zmem (p := 758) rfl rfl, zmem (p := 10) rfl rfl⟩⟩
set_option maxRecDepth 100000 in
theorem zm_110 : zMk 110 := ⟨zmem (p := 740) rfl rfl, zmem (p := 141) rfl rfl, ⟨by decide, by decide⟩, by decide, rfl, ⟨zmem (p := 739) rfl rfl, zmem (p := 9) rfl rfl⟩⟩
set_option maxRecDepth 100000 in
theorem zm_111 : zMk 111 := ⟨zmem (p := 771) rfl rfl, zmem (p := 141) rfl rfl, ⟨by decide, by decide⟩, by decide, rfl, ⟨zmem (p := 770) rfl rfl, zmem (p := 11) rfl rfl⟩⟩
set_option maxRecDepth 100000 in
theorem zm_112 : zMk 112 := ⟨zmem (p := 868) rfl rfl, zmem (p := 141) rfl rfl, ⟨by decide, by decide⟩, by decide, rfl, ⟨zmem (p := 867) rfl rfl, zmem (p := 20) rfl rfl⟩⟩
set_option maxRecDepth 100000 in
theorem zm_113 : zMk 113 := ⟨zmem (p := 863) rfl rfl, zmem (p := 141) rfl rfl, ⟨by decide, by decide⟩, by decide, rfl, ⟨zmem (p := 862) rfl rfl, zmem (p := 19) rfl rfl⟩⟩
set_option maxRecDepth 100000 in
theorem zm_114 : zMk 114 := ⟨zmem (p := 859) rfl rfl, zmem (p := 141) rfl rfl, ⟨by decide, by decide⟩, by decide, rfl, ⟨zmem (p := 858) rfl rfl, zmem (p := 18) rfl rfl⟩⟩
set_option maxRecDepth 100000 in
theorem zm_115 : zMk 115 := ⟨zmem (p := 819) rfl rfl, zmem (p := 141) rfl rfl, ⟨by decide, by decide⟩, by decide, rfl, ⟨zmem (p := 818) rfl rfl, zmem (p := 16) rfl rfl⟩⟩
set_option maxRecDepth 100000 in
theorem zm_116 : zMk 116 := ⟨zmem (p := 784) rfl rfl, zmem (p := 141) rfl rfl, ⟨by decide, by decide⟩, by decide, rfl, ⟨zmem (p := 783) rfl rfl, zmem (p := 13) rfl rfl⟩⟩
set_option maxRecDepth 100000 in
theorem zm_117 : zMk 117 := ⟨zmem (p := 788) rfl rfl, zmem (p := 141) rfl rfl, ⟨by decide, by decide⟩, by decide, rfl, ⟨zmem (p := 787) rfl rfl, zmem (p := 14) rfl rfl⟩⟩
set_option maxRecDepth 100000 in
theorem zm_118 : zMk 118 := ⟨zmem (p := 779) rfl rfl, zmem (p := 141) rfl rfl, ⟨by decide, by decide⟩, by decide, rfl, ⟨zmem (p := 778) rfl rfl, zmem (p := 12) rfl rfl⟩⟩
set_option maxRecDepth 100000 in
theorem zm_119 : zMk 119 := ⟨zmem (p := 800) rfl rfl, zmem (p := 141) rfl rfl, ⟨by decide, by decide⟩, by decide, rfl, ⟨zmem (p := 799) rfl rfl, zmem (p := 15) rfl rfl⟩⟩
set_option maxRecDepth 100000 in
theorem zm_120 : zMk 120 := ⟨zmem (p := 425) rfl rfl, zmem (p := 136) rfl rfl, ⟨by decide, by decide⟩, by decide, rfl, ⟨zmem (p := 424) rfl rfl, rfl, rfl⟩⟩
set_option maxRecDepth 100000 in
theorem zm_121 : zMk 121 := ⟨zmem (p := 652) rfl rfl, zmem (p := 136) rfl rfl, ⟨by decide, by decide⟩, by decide, rfl, ⟨zmem (p := 650) rfl rfl, zmem (p := 651) rfl rfl⟩⟩
set_option maxRecDepth 100000 in
theorem zm_122 : zMk 122 := ⟨zmem (p := 644) rfl rfl, zmem (p := 136) rfl rfl, ⟨by decide, by decide⟩, by decide, rfl, ⟨zmem (p := 642) rfl rfl, zmem (p := 643) rfl rfl⟩⟩
set_option maxRecDepth 100000 in
theorem zm_123 : zMk 123 := ⟨zmem (p := 648) rfl rfl, zmem (p := 136) rfl rfl, ⟨by decide, by decide⟩, by decide, rfl, ⟨zmem (p := 646) rfl rfl, zmem (p := 647) rfl rfl⟩⟩
set_option maxRecDepth 100000 in
theorem zm_124 : zMk 124 := ⟨zmem (p := 660) rfl rfl, zmem (p := 136) rfl rfl, ⟨by decide, by decide⟩, by decide, rfl, ⟨zmem (p := 658) rfl rfl, zmem (p := 659) rfl rfl⟩⟩
set_option maxRecDepth 100000 in
theorem zm_125 : zMk 125 := ⟨zmem (p := 677) rfl rfl, zmem (p := 136) rfl rfl, ⟨by decide, by decide⟩, by decide, rfl, ⟨zmem (p := 676) rfl rfl, zmem (p := 1) rfl rfl⟩⟩
set_option maxRecDepth 100000 in
theorem zm_126 : zMk 126 := ⟨zmem (p := 767) rfl rfl, zmem (p := 136) rfl rfl, ⟨by decide, by decide⟩, by decide, rfl, ⟨zmem (p := 765) rfl rfl, zmem (p := 766) rfl rfl⟩⟩
set_option maxRecDepth 100000 in
theorem zm_127 : zMk 127 := ⟨zmem (p := 732) rfl rfl, zmem (p := 136) rfl rfl, ⟨by decide, by decide⟩, by decide, rfl, ⟨zmem (p := 730) rfl rfl, zmem (p := 731) rfl rfl⟩⟩
set_option maxRecDepth 100000 in
theorem zm_128 : zMk 128 := ⟨zmem (p := 775) rfl rfl, zmem (p := 136) rfl rfl, ⟨by decide, by decide⟩, by decide, rfl, ⟨zmem (p := 773) rfl rfl, zmem (p := 774) rfl rfl⟩⟩
set_option maxRecDepth 100000 in
theorem zm_129 : zMk 129 := ⟨zmem (p := 744) rfl rfl, zmem (p := 136) rfl rfl, ⟨by decide, by decide⟩, by decide, rfl, ⟨zmem (p := 742) rfl rfl, zmem (p := 743) rfl rfl⟩⟩
set_option maxRecDepth 100000 in
theorem zm_130 : zMk 130 := ⟨zmem (p := 748) rfl rfl, zmem (p := 136) rfl rfl, ⟨by decide, by decide⟩, by decide, rfl, ⟨zmem (p := 746) rfl rfl, zmem (p := 747) rfl rfl⟩⟩
set_option maxRecDepth 100000 in
theorem zm_131 : zMk 131 := ⟨zmem (p := 755) rfl rfl, zmem (p := 136) rfl rfl, ⟨by decide, by decide⟩, by decide, rfl, ⟨zmem (p := 753) rfl rfl, zmem (p := 754) rfl rfl⟩⟩
set_option maxRecDepth 100000 in
theorem zm_132 : zMk 132 := ⟨zmem (p := 668) rfl rfl, zmem (p := 136) rfl rfl, ⟨by decide, by decide⟩, by decide, rfl, ⟨zmem (p := 666) rfl rfl, zmem (p := 667) rfl rfl⟩⟩
set_option maxRecDepth 100000 in
theorem zm_133 : zMk 133 := ⟨zmem (p := 704) rfl rfl, zmem (p := 136) rfl rfl, ⟨by decide, by decide⟩, by decide, rfl, ⟨zmem (p := 703) rfl rfl, zmem (p := 5) rfl rfl⟩⟩
set_option maxRecDepth 100000 in
theorem zm_134 : zMk 134 := ⟨zmem (p := 728) rfl rfl, zmem (p := 136) rfl rfl, ⟨by decide, by decide⟩, by decide, rfl, ⟨zmem (p := 727) rfl rfl, zmem (p := 8) rfl rfl⟩⟩
set_option maxRecDepth 100000 in
theorem zm_135 : zMk 135 := ⟨zmem (p := 708) rfl rfl, zmem (p := 136) rfl rfl, ⟨by decide, by decide⟩, by decide, rfl, ⟨zmem (p := 707) rfl rfl, zmem (p := 6) rfl rfl⟩⟩
set_option maxRecDepth 100000 in
theorem zm_136 : zMk 136 := ⟨zmem (p := 712) rfl rfl, zmem (p := 136) rfl rfl, ⟨by decide, by decide⟩, by decide, rfl, ⟨zmem (p := 711) rfl rfl, zmem (p := 7) rfl rfl⟩⟩
set_option maxRecDepth 100000 in
theorem zm_137 : zMk 137 := ⟨zmem (p := 715) rfl rfl, zmem (p := 136) rfl rfl, ⟨by decide, by decide⟩, by decide, (Or.inl ⟨_, rfl⟩), zmem (p := 714) rfl rfl⟩
set_option maxRecDepth 100000 in
theorem zm_138 : zMk 138 := ⟨zmem (p := 673) rfl rfl, zmem (p := 136) rfl rfl, ⟨by decide, by decide⟩, by decide, rfl, ⟨zmem (p := 672) rfl rfl, zmem (p := 0) rfl rfl⟩⟩
set_option maxRecDepth 100000 in
theorem zm_139 : zMk 139 := ⟨zmem (p := 687) rfl rfl, zmem (p := 136) rfl rfl, ⟨by decide, by decide⟩, by decide, rfl, ⟨zmem (p := 686) rfl rfl, zmem (p := 2) rfl rfl⟩⟩
set_option maxRecDepth 100000 in
theorem zm_140 : zMk 140 := ⟨zmem (p := 698) rfl rfl, zmem (p := 136) rfl rfl, ⟨by decide, by decide⟩, by decide, rfl, ⟨zmem (p := 697) rfl rfl, zmem (p := 4) rfl rfl⟩⟩
set_option maxRecDepth 100000 in
theorem zm_141 : zMk 141 := ⟨zmem (p := 691) rfl rfl, zmem (p := 136) rfl rfl, ⟨by decide, by decide⟩, by decide, rfl, ⟨zmem (p := 690) rfl rfl, zmem (p := 3) rfl rfl⟩⟩
set_option maxRecDepth 100000 in
theorem zm_142 : zMk 142 := ⟨zmem (p := 480) rfl rfl, zmem (p := 136) rfl rfl, ⟨by decide, by decide⟩, by decide, rfl, zmem (p := 479) rfl rfl⟩
set_option maxRecDepth 100000 in
theorem zm_143 : zMk 143 := ⟨zmem (p := 683) rfl rfl, zmem (p := 136) rfl rfl, ⟨by decide, by decide⟩, by decide, rfl, zmem (p := 682) rfl rfl⟩
set_option maxRecDepth 100000 in
theorem zm_144 : zMk 144 := ⟨zmem (p := 694) rfl rfl, zmem (p := 136) rfl rfl, ⟨by decide, by decide⟩, by decide, rfl, zmem (p := 693) rfl rfl⟩
set_option maxRecDepth 100000 in
theorem zm_145 : zMk 145 := ⟨zmem (p := 680) rfl rfl, zmem (p := 136) rfl rfl, ⟨by decide, by decide⟩, by decide, rfl, zmem (p := 679) rfl rfl⟩
set_option maxRecDepth 100000 in
theorem zm_146 : zMk 146 := ⟨zmem (p := 218) rfl rfl, zmem (p := 130) rfl rfl, ⟨by decide, by decide⟩, by decide, rfl, ⟨zmem (p := 217) rfl rfl, rfl, rfl⟩⟩
set_option maxRecDepth 100000 in
theorem zm_147 : zMk 147 := ⟨zmem (p := 1071) rfl rfl, zmem (p := 130) rfl rfl, ⟨by decide, by decide⟩, by decide, rfl, zmem (p := 1070) rfl rfl⟩
set_option maxRecDepth 100000 in
theorem zm_148 : zMk 148 := ⟨zmem (p := 1125) rfl rfl, zmem (p := 130) rfl rfl, ⟨by decide, by decide⟩, by decide, rfl, ⟨zmem (p := 1123) rfl rfl, zmem (p := 1124) rfl rfl⟩⟩
set_option maxRecDepth 100000 in
theorem zm_149 : zMk 149 := ⟨zmem (p := 1132) rfl rfl, zmem (p := 130) rfl rfl, ⟨by decide, by decide⟩, by decide, rfl, ⟨zmem (p := 1130) rfl rfl, zmem (p := 1131) rfl rfl⟩⟩
set_option maxRecDepth 100000 in
theorem zm_150 : zMk 150 := ⟨zmem (p := 1176) rfl rfl, zmem (p := 130) rfl rfl, ⟨by decide, by decide⟩, by decide, rfl, ⟨zmem (p := 1174) rfl rfl, zmem (p := 1175) rfl rfl⟩⟩
set_option maxRecDepth 100000 in
theorem zm_151 : zMk 151 := ⟨zmem (p := 1136) rfl rfl, zmem (p := 130) rfl rfl, ⟨by decide, by decide⟩, by decide, rfl, ⟨zmem (p := 1135) rfl rfl, zmem (p := 30) rfl rfl⟩⟩
set_option maxRecDepth 100000 in
theorem zm_152 : zMk 152 := ⟨zmem (p := 1141) rfl rfl, zmem (p := 130) rfl rfl, ⟨by decide, by decide⟩, by decide, rfl, ⟨zmem (p := 1140) rfl rfl, zmem (p := 31) rfl rfl⟩⟩
set_option maxRecDepth 100000 in
theorem zm_153 : zMk 153 := ⟨zmem (p := 1145) rfl rfl, zmem (p := 130) rfl rfl, ⟨by decide, by decide⟩, by decide, rfl, ⟨zmem (p := 1144) rfl rfl, zmem (p := 32) rfl rfl⟩⟩
set_option maxRecDepth 100000 in
theorem zm_154 : zMk 154 := ⟨zmem (p := 1163) rfl rfl, zmem (p := 130) rfl rfl, ⟨by decide, by decide⟩, by decide, rfl, ⟨zmem (p := 1162) rfl rfl, zmem (p := 35) rfl rfl⟩⟩
set_option maxRecDepth 100000 in
theorem zm_155 : zMk 155 := ⟨zmem (p := 1149) rfl rfl, zmem (p := 130) rfl rfl, ⟨by decide, by decide⟩, by decide, rfl, ⟨zmem (p := 1148) rfl rfl, zmem (p := 33) rfl rfl⟩⟩
set_option maxRecDepth 100000 in
theorem zm_156 : zMk 156 := ⟨zmem (p := 1158) rfl rfl, zmem (p := 130) rfl rfl, ⟨by decide, by decide⟩, by decide, rfl, ⟨zmem (p := 1157) rfl rfl, zmem (p := 34) rfl rfl⟩⟩
set_option maxRecDepth 100000 in
theorem zm_157 : zMk 157 := ⟨zmem (p := 152) rfl rfl, zmem (p := 126) rfl rfl, ⟨by decide, by decide⟩, by decide, rfl, ⟨zmem (p := 151) rfl rfl, rfl, rfl⟩⟩
set_option maxRecDepth 100000 in
theorem zm_158 : zMk 158 := ⟨zmem (p := 640) rfl rfl, zmem (p := 126) rfl rfl, ⟨by decide, by decide⟩, by decide, rfl, ⟨zmem (p := 638) rfl rfl, zmem (p := 639) rfl rfl⟩⟩
set_option maxRecDepth 100000 in
theorem zm_159 : zMk 159 := ⟨zmem (p := 656) rfl rfl, zmem (p := 126) rfl rfl, ⟨by decide, by decide⟩, by decide, rfl, ⟨zmem (p := 654) rfl rfl, zmem (p := 655) rfl rfl⟩⟩
set_option maxRecDepth 100000 in
theorem zm_160 : zMk 160 := ⟨zmem (p := 664) rfl rfl, zmem (p := 126) rfl rfl, ⟨by decide, by decide⟩, by decide, rfl, ⟨zmem (p := 662) rfl rfl, zmem (p := 663) rfl rfl⟩⟩
set_option maxRecDepth 100000 in
theorem zm_161 : zMk 161 := ⟨zmem (p := 901) rfl rfl, zmem (p := 126) rfl rfl, ⟨by decide, by decide⟩, by decide, rfl, ⟨zmem (p := 899) rfl rfl, zmem (p := 900) rfl rfl⟩⟩
set_option maxRecDepth 100000 in
theorem zm_162 : zMk 162 := ⟨zmem (p := 905) rfl rfl, zmem (p := 126) rfl rfl, ⟨by decide, by decide⟩, by decide, rfl, ⟨zmem (p := 903) rfl rfl, zmem (p := 904) rfl rfl⟩⟩
set_option maxRecDepth 100000 in
theorem zm_163 : zMk 163 := ⟨zmem (p := 913) rfl rfl, zmem (p := 126) rfl rfl, ⟨by decide, by decide⟩, by decide, rfl, ⟨zmem (p := 911) rfl rfl, zmem (p := 912) rfl rfl⟩⟩
set_option maxRecDepth 100000 in
theorem zm_164 : zMk 164 := ⟨zmem (p := 921) rfl rfl, zmem (p := 126) rfl rfl, ⟨by decide, by decide⟩, by decide, rfl, ⟨zmem (p := 919) rfl rfl, zmem (p := 920) rfl rfl⟩⟩
set_option maxRecDepth 100000 in
theorem zm_165 : zMk 165 := ⟨zmem (p := 927) rfl rfl, zmem (p := 126) rfl rfl, ⟨by decide, by decide⟩, by decide, rfl, ⟨zmem (p := 925) rfl rfl, zmem (p := 926) rfl rfl⟩⟩
set_option maxRecDepth 100000 in
theorem zm_166 : zMk 166 := ⟨zmem (p := 940) rfl rfl, zmem (p := 126) rfl rfl, ⟨by decide, by decide⟩, by decide, rfl, ⟨zmem (p := 938) rfl rfl, zmem (p := 939) rfl rfl⟩⟩
set_option maxRecDepth 100000 in
theorem zm_167 : zMk 167 := ⟨zmem (p := 959) rfl rfl, zmem (p := 126) rfl rfl, ⟨by decide, by decide⟩, by decide, rfl, ⟨zmem (p := 957) rfl rfl, zmem (p := 958) rfl rfl⟩⟩
set_option maxRecDepth 100000 in
theorem zm_168 : zMk 168 := ⟨zmem (p := 969) rfl rfl, zmem (p := 126) rfl rfl, ⟨by decide, by decide⟩, by decide, rfl, ⟨zmem (p := 967) rfl rfl, zmem (p := 968) rfl rfl⟩⟩
set_option maxRecDepth 100000 in
theorem zm_169 : zMk 169 := ⟨zmem (p := 981) rfl rfl, zmem (p := 126) rfl rfl, ⟨by decide, by decide⟩, by decide, rfl, ⟨zmem (p := 979) rfl rfl, zmem (p := 980) rfl rfl⟩⟩
set_option maxRecDepth 100000 in
theorem zm_170 : zMk 170 := ⟨zmem (p := 1007) rfl rfl, zmem (p := 126) rfl rfl, ⟨by decide, by decide⟩, by decide, rfl, ⟨zmem (p := 1005) rfl rfl, zmem (p := 1006) rfl rfl⟩⟩
set_option maxRecDepth 100000 in
theorem zm_171 : zMk 171 := ⟨zmem (p := 1020) rfl rfl, zmem (p := 126) rfl rfl, ⟨by decide, by decide⟩, by decide, rfl, ⟨zmem (p := 1018) rfl rfl, zmem (p := 1019) rfl rfl⟩⟩
set_option maxRecDepth 100000 in
theorem zm_172 : zMk 172 := ⟨zmem (p := 1028) rfl rfl, zmem (p := 126) rfl rfl, ⟨by decide, by decide⟩, by decide, rfl, ⟨zmem (p := 1026) rfl rfl, zmem (p := 1027) rfl rfl⟩⟩
set_option maxRecDepth 100000 in
theorem zm_173 : zMk 173 := ⟨zmem (p := 1054) rfl rfl, zmem (p := 126) rfl rfl, ⟨by decide, by decide⟩, by decide, rfl, ⟨zmem (p := 1052) rfl rfl, zmem (p := 1053) rfl rfl⟩⟩
set_option maxRecDepth 100000 in
theorem zm_174 : zMk 174 := ⟨zmem (p := 1075) rfl rfl, zmem (p := 126) rfl rfl, ⟨by decide, by decide⟩, by decide, rfl, ⟨zmem (p := 1073) rfl rfl, zmem (p := 1074) rfl rfl⟩⟩
set_option maxRecDepth 100000 in
theorem zm_175 : zMk 175 := ⟨zmem (p := 1087) rfl rfl, zmem (p := 126) rfl rfl, ⟨by decide, by decide⟩, by decide, rfl, ⟨zmem (p := 1085) rfl rfl, zmem (p := 1086) rfl rfl⟩⟩
set_option maxRecDepth 100000 in
theorem zm_176 : zMk 176 := ⟨zmem (p := 1108) rfl rfl, zmem (p := 126) rfl rfl, ⟨by decide, by decide⟩, by decide, rfl, ⟨zmem (p := 1106) rfl rfl, zmem (p := 1107) rfl rfl⟩⟩
set_option maxRecDepth 100000 in
theorem zm_177 : zMk 177 := ⟨zmem (p := 1117) rfl rfl, zmem (p := 126) rfl rfl, ⟨by decide, by decide⟩, by decide, rfl, ⟨zmem (p := 1115) rfl rfl, zmem (p := 1116) rfl rfl⟩⟩
set_option maxRecDepth 100000 in
theorem zm_178 : zMk 178 := ⟨zmem (p := 1168) rfl rfl, zmem (p := 126) rfl rfl, ⟨by decide, by decide⟩, by decide, rfl, ⟨zmem (p := 1166) rfl rfl, zmem (p := 1167) rfl rfl⟩⟩
set_option maxRecDepth 100000 in
theorem zm_179 : zMk 179 := ⟨zmem (p := 1172) rfl rfl, zmem (p := 126) rfl rfl, ⟨by decide, by decide⟩, by decide, rfl, ⟨zmem (p := 1170) rfl rfl, zmem (p := 1171) rfl rfl⟩⟩
set_option maxRecDepth 100000 in
theorem zm_180 : zMk 180 := ⟨zmem (p := 1180) rfl rfl, zmem (p := 126) rfl rfl, ⟨by decide, by decide⟩, by decide, rfl, ⟨zmem (p := 1178) rfl rfl, zmem (p := 1179) rfl rfl⟩⟩
set_option maxRecDepth 100000 in
theorem zm_181 : zMk 181 := ⟨zmem (p := 1188) rfl rfl, zmem (p := 126) rfl rfl, ⟨by decide, by decide⟩, by decide, rfl, ⟨zmem (p := 1186) rfl rfl, zmem (p := 1187) rfl rfl⟩⟩
set_option maxRecDepth 100000 in
theorem zm_182 : zMk 182 := ⟨zmem (p := 1229) rfl rfl, zmem (p := 126) rfl rfl, ⟨by decide, by decide⟩, by decide, rfl, ⟨zmem (p := 1227) rfl rfl, zmem (p := 1228) rfl rfl⟩⟩
set_option maxRecDepth 100000 in
theorem zm_183 : zMk 183 := ⟨zmem (p := 1237) rfl rfl, zmem (p := 126) rfl rfl, ⟨by decide, by decide⟩, by decide, rfl, ⟨zmem (p := 1235) rfl rfl, zmem (p := 1236) rfl rfl⟩⟩
set_option maxRecDepth 100000 in
theorem zm_184 : zMk 184 := ⟨zmem (p := 1245) rfl rfl, zmem (p := 126) rfl rfl, ⟨by decide, by decide⟩, by decide, rfl, ⟨zmem (p := 1243) rfl rfl, zmem (p := 1244) rfl rfl⟩⟩
set_option maxRecDepth 100000 in
theorem zm_185 : zMk 185 := ⟨zmem (p := 1253) rfl rfl, zmem (p := 126) rfl rfl, ⟨by decide, by decide⟩, by decide, rfl, ⟨zmem (p := 1251) rfl rfl, zmem (p := 1252) rfl rfl⟩⟩
set_option maxRecDepth 100000 in
theorem zm_186 : zMk 186 := ⟨zmem (p := 1261) rfl rfl, zmem (p := 126) rfl rfl, ⟨by decide, by decide⟩, by decide, rfl, ⟨zmem (p := 1259) rfl rfl, zmem (p := 1260) rfl rfl⟩⟩
set_option maxRecDepth 100000 in
theorem zm_187 : zMk 187 := ⟨zmem (p := 1316) rfl rfl, zmem (p := 126) rfl rfl, ⟨by decide, by decide⟩, by decide, rfl, ⟨zmem (p := 1314) rfl rfl, zmem (p := 1315) rfl rfl⟩⟩
set_option maxRecDepth 100000 in
theorem zm_188 : zMk 188 := ⟨zmem (p := 1321) rfl rfl, zmem (p := 126) rfl rfl, ⟨by decide, by decide⟩, by decide, rfl, ⟨zmem (p := 1319) rfl rfl, zmem (p := 1320) rfl rfl⟩⟩
set_option maxRecDepth 100000 in
theorem zm_189 : zMk 189 := ⟨zmem (p := 1336) rfl rfl, zmem (p := 126) rfl rfl, ⟨by decide, by decide⟩, by decide, rfl, ⟨zmem (p := 1334) rfl rfl, zmem (p := 1335) rfl rfl⟩⟩
set_option maxRecDepth 100000 in
theorem zm_190 : zMk 190 := ⟨zmem (p := 1358) rfl rfl, zmem (p := 126) rfl rfl, ⟨by decide, by decide⟩, by decide, rfl, ⟨zmem (p := 1356) rfl rfl, zmem (p := 1357) rfl rfl⟩⟩
set_option maxRecDepth 100000 in
theorem zm_191 : zMk 191 := ⟨zmem (p := 1371) rfl rfl, zmem (p := 126) rfl rfl, ⟨by decide, by decide⟩, by decide, rfl, ⟨zmem (p := 1369) rfl rfl, zmem (p := 1370) rfl rfl⟩⟩
set_option maxRecDepth 100000 in
theorem zm_192 : zMk 192 := ⟨zmem (p := 1395) rfl rfl, zmem (p := 126) rfl rfl, ⟨by decide, by decide⟩, by decide, rfl, ⟨zmem (p := 1393) rfl rfl, zmem (p := 1394) rfl rfl⟩⟩
set_option maxRecDepth 100000 in
theorem zm_193 : zMk 193 := ⟨zmem (p := 1439) rfl rfl, zmem (p := 126) rfl rfl, ⟨by decide, by decide⟩, by decide, rfl, ⟨zmem (p := 1437) rfl rfl, zmem (p := 1438) rfl rfl⟩⟩
set_option maxRecDepth 100000 in
theorem zm_194 : zMk 194 := ⟨zmem (p := 1399) rfl rfl, zmem (p := 126) rfl rfl, ⟨by decide, by decide⟩, by decide, rfl, ⟨zmem (p := 1397) rfl rfl, zmem (p := 1398) rfl rfl⟩⟩
set_option maxRecDepth 100000 in
theorem zm_195 : zMk 195 := ⟨zmem (p := 1453) rfl rfl, zmem (p := 126) rfl rfl, ⟨by decide, by decide⟩, by decide, rfl, ⟨zmem (p := 1451) rfl rfl, zmem (p := 1452) rfl rfl⟩⟩
set_option maxRecDepth 100000 in
theorem zm_196 : zMk 196 := ⟨zmem (p := 1468) rfl rfl, zmem (p := 126) rfl rfl, ⟨by decide, by decide⟩, by decide, rfl, ⟨zmem (p := 1466) rfl rfl, zmem (p := 1467) rfl rfl⟩⟩
set_option maxRecDepth 100000 in
theorem zm_197 : zMk 197 := ⟨zmem (p := 1476) rfl rfl, zmem (p := 126) rfl rfl, ⟨by decide, by decide⟩, by decide, rfl, ⟨zmem (p := 1474) rfl rfl, zmem (p := 1475) rfl rfl⟩⟩
set_option maxRecDepth 100000 in
theorem zm_198 : zMk 198 := ⟨zmem (p := 1480) rfl rfl, zmem (p := 126) rfl rfl, ⟨by decide, by decide⟩, by decide, rfl, ⟨zmem (p := 1478) rfl rfl, zmem (p := 1479) rfl rfl⟩⟩
set_option maxRecDepth 100000 in
theorem zm_199 : zMk 199 := ⟨zmem (p := 1525) rfl rfl, zmem (p := 126) rfl rfl, ⟨by decide, by decide⟩, by decide, rfl, ⟨zmem (p := 1523) rfl rfl, zmem (p := 1524) rfl rfl⟩⟩
set_option maxRecDepth 100000 in
theorem zm_200 : zMk 200 := ⟨zmem (p := 1534) rfl rfl, zmem (p := 126) rfl rfl, ⟨by decide, by decide⟩, by decide, rfl, ⟨zmem (p := 1532) rfl rfl, zmem (p := 1533) rfl rfl⟩⟩
set_option maxRecDepth 100000 in
theorem zm_201 : zMk 201 := ⟨zmem (p := 1542) rfl rfl, zmem (p := 126) rfl rfl, ⟨by decide, by decide⟩, by decide, rfl, ⟨zmem (p := 1540) rfl rfl, zmem (p := 1541) rfl rfl⟩⟩
set_option maxRecDepth 100000 in
theorem zm_202 : zMk 202 := ⟨zmem (p := 917) rfl rfl, zmem (p := 126) rfl rfl, ⟨by decide, by decide⟩, by decide, (Or.inl ⟨_, rfl⟩), ⟨zmem (p := 916) rfl rfl, zmem (p := 23) rfl rfl⟩⟩
set_option maxRecDepth 100000 in
theorem zm_203 : zMk 203 := ⟨zmem (p := 884) rfl rfl, zmem (p := 126) rfl rfl, ⟨by decide, by decide⟩, by decide, (Or.inl ⟨_, rfl⟩), ⟨zmem (p := 883) rfl rfl, zmem (p := 21) rfl rfl⟩⟩
set_option maxRecDepth 100000 in
theorem zm_204 : zMk 204 := ⟨zmem (p := 1058) rfl rfl, zmem (p := 126) rfl rfl, ⟨by decide, by decide⟩, by decide, rfl, ⟨zmem (p := 1057) rfl rfl, zmem (p := 26) rfl rfl⟩⟩
set_option maxRecDepth 100000 in
theorem zm_205 : zMk 205 := ⟨zmem (p := 1121) rfl rfl, zmem (p := 126) rfl rfl, ⟨by decide, by decide⟩, by decide, rfl, ⟨zmem (p := 1120) rfl rfl, zmem (p := 29) rfl rfl⟩⟩
set_option maxRecDepth 100000 in
theorem zm_206 : zMk 206 := ⟨zmem (p := 931) rfl rfl, zmem (p := 126) rfl rfl, ⟨by decide, by decide⟩, by decide, rfl, zmem (p := 930) rfl rfl⟩
set_option maxRecDepth 100000 in
theorem zm_207 : zMk 207 := ⟨zmem (p := 934) rfl rfl, zmem (p := 126) rfl rfl, ⟨by decide, by decide⟩, by decide, rfl, zmem (p := 933) rfl rfl⟩
set_option maxRecDepth 100000 in
theorem zm_208 : zMk 208 := ⟨zmem (p := 1551) rfl rfl, zmem (p := 142) rfl rfl, ⟨by decide, by decide⟩, by decide, rfl, ⟨zmem (p := 1550) rfl rfl, rfl, rfl⟩⟩
set_option maxRecDepth 100000 in
theorem zm_209 : zMk 209 := ⟨zmem (p := 1738) rfl rfl, zmem (p := 142) rfl rfl, ⟨by decide, by decide⟩, by decide, rfl, ⟨zmem (p := 1736) rfl rfl, zmem (p := 1737) rfl rfl⟩⟩
set_option maxRecDepth 100000 in
theorem zm_210 : zMk 210 := ⟨zmem (p := 1742) rfl rfl, zmem (p := 142) rfl rfl, ⟨by decide, by decide⟩, by decide, rfl, ⟨zmem (p := 1741) rfl rfl, zmem (p := 61) rfl rfl⟩⟩
set_option maxRecDepth 100000 in
theorem zm_211 : zMk 211 := ⟨zmem (p := 1746) rfl rfl, zmem (p := 142) rfl rfl, ⟨by decide, by decide⟩, by decide, rfl, ⟨zmem (p := 1744) rfl rfl, zmem (p := 1745) rfl rfl⟩⟩
set_option maxRecDepth 100000 in
theorem zm_212 : zMk 212 := ⟨zmem (p := 1758) rfl rfl, zmem (p := 142) rfl rfl, ⟨by decide, by decide⟩, by decide, rfl, ⟨zmem (p := 1757) rfl rfl, zmem (p := 63) rfl rfl⟩⟩
set_option maxRecDepth 100000 in
theorem zm_213 : zMk 213 := ⟨zmem (p := 1766) rfl rfl, zmem (p := 142) rfl rfl, ⟨by decide, by decide⟩, by decide, rfl, ⟨zmem (p := 1765) rfl rfl, zmem (p := 65) rfl rfl⟩⟩
set_option maxRecDepth 100000 in
theorem zm_214 : zMk 214 := ⟨zmem (p := 1789) rfl rfl, zmem (p := 142) rfl rfl, ⟨by decide, by decide⟩, by decide, rfl, ⟨zmem (p := 1788) rfl rfl, zmem (p := 67) rfl rfl⟩⟩
set_option maxRecDepth 100000 in
theorem zm_215 : zMk 215 := ⟨zmem (p := 1785) rfl rfl, zmem (p := 142) rfl rfl, ⟨by decide, by decide⟩, by decide, rfl, ⟨zmem (p := 1784) rfl rfl, zmem (p := 66) rfl rfl⟩⟩
set_option maxRecDepth 100000 in
theorem zm_216 : zMk 216 := ⟨zmem (p := 1771) rfl rfl, zmem (p := 142) rfl rfl, ⟨by decide, by decide⟩, by decide, rfl, zmem (p := 1770) rfl rfl⟩
set_option maxRecDepth 100000 in
theorem zm_217 : zMk 217 := ⟨zmem (p := 1762) rfl rfl, zmem (p := 142) rfl rfl, ⟨by decide, by decide⟩, by decide, rfl, ⟨zmem (p := 1761) rfl rfl, zmem (p := 64) rfl rfl⟩⟩
set_option maxRecDepth 100000 in
theorem zm_218 : zMk 218 := ⟨zmem (p := 1754) rfl rfl, zmem (p := 142) rfl rfl, ⟨by decide, by decide⟩, by decide, rfl, ⟨zmem (p := 1753) rfl rfl, zmem (p := 62) rfl rfl⟩⟩
set_option maxRecDepth 100000 in
theorem zm_219 : zMk 219 := ⟨zmem (p := 1801) rfl rfl, zmem (p := 142) rfl rfl, ⟨by decide, by decide⟩, by decide, rfl, ⟨zmem (p := 1800) rfl rfl, zmem (p := 70) rfl rfl⟩⟩
set_option maxRecDepth 100000 in
theorem zm_220 : zMk 220 := ⟨zmem (p := 1805) rfl rfl, zmem (p := 142) rfl rfl, ⟨by decide, by decide⟩, by decide, rfl, ⟨zmem (p := 1804) rfl rfl, zmem (p := 71) rfl rfl⟩⟩
set_option maxRecDepth 100000 in
theorem zm_221 : zMk 221 := ⟨zmem (p := 1817) rfl rfl, zmem (p := 142) rfl rfl, ⟨by decide, by decide⟩, by decide, rfl, ⟨zmem (p := 1816) rfl rfl, zmem (p := 74) rfl rfl⟩⟩
set_option maxRecDepth 100000 in
theorem zm_222 : zMk 222 := ⟨zmem (p := 1797) rfl rfl, zmem (p := 142) rfl rfl, ⟨by decide, by decide⟩, by decide, rfl, ⟨zmem (p := 1796) rfl rfl, zmem (p := 69) rfl rfl⟩⟩
set_option maxRecDepth 100000 in
theorem zm_223 : zMk 223 := ⟨zmem (p := 1809) rfl rfl, zmem (p := 142) rfl rfl, ⟨by decide, by decide⟩, by decide, rfl, ⟨zmem (p := 1808) rfl rfl, zmem (p := 72) rfl rfl⟩⟩
set_option maxRecDepth 100000 in
theorem zm_224 : zMk 224 := ⟨zmem (p := 1813) rfl rfl, zmem (p := 142) rfl rfl, ⟨by decide, by decide⟩, by decide, rfl, ⟨zmem (p := 1812) rfl rfl, zmem (p := 73) rfl rfl⟩⟩
set_option maxRecDepth 100000 in
theorem zm_225 : zMk 225 := ⟨zmem (p := 1825) rfl rfl, zmem (p := 142) rfl rfl, ⟨by decide, by decide⟩, by decide, rfl, ⟨zmem (p := 1824) rfl rfl, zmem (p := 76) rfl rfl⟩⟩
set_option maxRecDepth 100000 in
theorem zm_226 : zMk 226 := ⟨zmem (p := 1821) rfl rfl, zmem (p := 142) rfl rfl, ⟨by decide, by decide⟩, by decide, rfl, ⟨zmem (p := 1820) rfl rfl, zmem (p := 75) rfl rfl⟩⟩
set_option maxRecDepth 100000 in
theorem zm_227 : zMk 227 := ⟨zmem (p := 1793) rfl rfl, zmem (p := 142) rfl rfl, ⟨by decide, by decide⟩, by decide, rfl, ⟨zmem (p := 1792) rfl rfl, zmem (p := 68) rfl rfl⟩⟩
set_option maxRecDepth 100000 in
theorem zm_228 : zMk 228 := ⟨zmem (p := 1833) rfl rfl, zmem (p := 142) rfl rfl, ⟨by decide, by decide⟩, by decide, rfl, ⟨zmem (p := 1832) rfl rfl, zmem (p := 78) rfl rfl⟩⟩
set_option maxRecDepth 100000 in
theorem zm_229 : zMk 229 := ⟨zmem (p := 1845) rfl rfl, zmem (p := 142) rfl rfl, ⟨by decide, by decide⟩, by decide, rfl, ⟨zmem (p := 1844) rfl rfl, zmem (p := 81) rfl rfl⟩⟩
set_option maxRecDepth 100000 in
theorem zm_230 : zMk 230 := ⟨zmem (p := 1841) rfl rfl, zmem (p := 142) rfl rfl, ⟨by decide, by decide⟩, by decide, rfl, ⟨zmem (p := 1840) rfl rfl, zmem (p := 80) rfl rfl⟩⟩
set_option maxRecDepth 100000 in
theorem zm_231 : zMk 231 := ⟨zmem (p := 1857) rfl rfl, zmem (p := 142) rfl rfl, ⟨by decide, by decide⟩, by decide, rfl, ⟨zmem (p := 1856) rfl rfl, zmem (p := 84) rfl rfl⟩⟩
set_option maxRecDepth 100000 in
theorem zm_232 : zMk 232 := ⟨zmem (p := 1869) rfl rfl, zmem (p := 142) rfl rfl, ⟨by decide, by decide⟩, by decide, rfl, ⟨zmem (p := 1868) rfl rfl, zmem (p := 87) rfl rfl⟩⟩
set_option maxRecDepth 100000 in
theorem zm_233 : zMk 233 := ⟨zmem (p := 1853) rfl rfl, zmem (p := 142) rfl rfl, ⟨by decide, by decide⟩, by decide, rfl, ⟨zmem (p := 1852) rfl rfl, zmem (p := 83) rfl rfl⟩⟩
set_option maxRecDepth 100000 in
theorem zm_234 : zMk 234 := ⟨zmem (p := 1861) rfl rfl, zmem (p := 142) rfl rfl, ⟨by decide, by decide⟩, by decide, rfl, ⟨zmem (p := 1860) rfl rfl, zmem (p := 85) rfl rfl⟩⟩
set_option maxRecDepth 100000 in
theorem zm_235 : zMk 235 := ⟨zmem (p := 1849) rfl rfl, zmem (p := 142) rfl rfl, ⟨by decide, by decide⟩, by decide, rfl, ⟨zmem (p := 1848) rfl rfl, zmem (p := 82) rfl rfl⟩⟩
set_option maxRecDepth 100000 in
theorem zm_236 : zMk 236 := ⟨zmem (p := 1865) rfl rfl, zmem (p := 142) rfl rfl, ⟨by decide, by decide⟩, by decide, rfl, ⟨zmem (p := 1864) rfl rfl, zmem (p := 86) rfl rfl⟩⟩
set_option maxRecDepth 100000 in
theorem zm_237 : zMk 237 := ⟨zmem (p := 1837) rfl rfl, zmem (p := 142) rfl rfl, ⟨by decide, by decide⟩, by decide, rfl, ⟨zmem (p := 1836) rfl rfl, zmem (p := 79) rfl rfl⟩⟩
set_option maxRecDepth 100000 in
theorem zm_238 : zMk 238 := ⟨zmem (p := 1829) rfl rfl, zmem (p := 142) rfl rfl, ⟨by decide, by decide⟩, by decide, rfl, ⟨zmem (p := 1828) rfl rfl, zmem (p := 77) rfl rfl⟩⟩
set_option maxRecDepth 100000 in
theorem zm_239 : zMk 239 := ⟨zmem (p := 1750) rfl rfl, zmem (p := 142) rfl rfl, ⟨by decide, by decide⟩, by decide, rfl, ⟨zmem (p := 1748) rfl rfl, zmem (p := 1749) rfl rfl⟩⟩
set_option maxRecDepth 100000 in
theorem zm_240 : zMk 240 := ⟨zmem (p := 1881) rfl rfl, zmem (p := 142) rfl rfl, ⟨by decide, by decide⟩, by decide, rfl, ⟨zmem (p := 1879) rfl rfl, zmem (p := 1880) rfl rfl⟩⟩
set_option maxRecDepth 100000 in
theorem zm_241 : zMk 241 := ⟨zmem (p := 1873) rfl rfl, zmem (p := 142) rfl rfl, ⟨by decide, by decide⟩, by decide, rfl, ⟨zmem (p := 1872) rfl rfl, zmem (p := 88) rfl rfl⟩⟩
set_option maxRecDepth 100000 in
theorem zm_242 : zMk 242 := ⟨zmem (p := 1877) rfl rfl, zmem (p := 142) rfl rfl, ⟨by decide, by decide⟩, by decide, rfl, ⟨zmem (p := 1876) rfl rfl, zmem (p := 89) rfl rfl⟩⟩
set_option maxRecDepth 100000 in
theorem zm_243 : zMk 243 := ⟨zmem (p := 1893) rfl rfl, zmem (p := 142) rfl rfl, ⟨by decide, by decide⟩, by decide, rfl, ⟨zmem (p := 1892) rfl rfl, zmem (p := 90) rfl rfl⟩⟩
set_option maxRecDepth 100000 in
theorem zm_244 : zMk 244 := ⟨zmem (p := 1901) rfl rfl, zmem (p := 142) rfl rfl, ⟨by decide, by decide⟩, by decide, rfl, ⟨zmem (p := 1900) rfl rfl, zmem (p := 91) rfl rfl⟩⟩
set_option maxRecDepth 100000 in
theorem zm_245 : zMk 245 := ⟨zmem (p := 1927) rfl rfl, zmem (p := 142) rfl rfl, ⟨by decide, by decide⟩, by decide, rfl, ⟨zmem (p := 1926) rfl rfl, zmem (p := 93) rfl rfl⟩⟩
set_option maxRecDepth 100000 in
theorem zm_246 : zMk 246 := ⟨zmem (p := 1885) rfl rfl, zmem (p := 142) rfl rfl, ⟨by decide, by decide⟩, by decide, rfl, ⟨zmem (p := 1883) rfl rfl, zmem (p := 1884) rfl rfl⟩⟩
set_option maxRecDepth 100000 in
theorem zm_247 : zMk 247 := ⟨zmem (p := 1889) rfl rfl, zmem (p := 142) rfl rfl, ⟨by decide, by decide⟩, by decide, rfl, ⟨zmem (p := 1887) rfl rfl, zmem (p := 1888) rfl rfl⟩⟩
set_option maxRecDepth 100000 in
theorem zm_248 : zMk 248 := ⟨zmem (p := 1897) rfl rfl, zmem (p := 142) rfl rfl, ⟨by decide, by decide⟩, by decide, rfl, ⟨zmem (p := 1895) rfl rfl, zmem (p := 1896) rfl rfl⟩⟩
set_option maxRecDepth 100000 in
theorem zm_249 : zMk 249 := ⟨zmem (p := 1914) rfl rfl, zmem (p := 142) rfl rfl, ⟨by decide, by decide⟩, by decide, rfl, zmem (p := 1913) rfl rfl⟩
set_option maxRecDepth 100000 in
theorem zm_250 : zMk 250 := ⟨zmem (p := 1911) rfl rfl, zmem (p := 142) rfl rfl, ⟨by decide, by decide⟩, by decide, rfl, zmem (p := 1910) rfl rfl⟩
set_option maxRecDepth 100000 in
theorem zm_251 : zMk 251 := ⟨zmem (p := 1908) rfl rfl, zmem (p := 142) rfl rfl, ⟨by decide, by decide⟩, by decide, rfl, zmem (p := 1907) rfl rfl⟩
set_option maxRecDepth 100000 in
theorem zm_252 : zMk 252 := ⟨zmem (p := 1905) rfl rfl, zmem (p := 142) rfl rfl, ⟨by decide, by decide⟩, by decide, rfl, ⟨zmem (p := 1903) rfl rfl, zmem (p := 1904) rfl rfl⟩⟩
set_option maxRecDepth 100000 in
theorem zm_253 : zMk 253 := ⟨zmem (p := 1923) rfl rfl, zmem (p := 142) rfl rfl, ⟨by decide, by decide⟩, by decide, rfl, ⟨zmem (p := 1922) rfl rfl, zmem (p := 92) rfl rfl⟩⟩
set_option maxRecDepth 100000 in
theorem zm_254 : zMk 254 := ⟨zmem (p := 1919) rfl rfl, zmem (p := 142) rfl rfl, ⟨by decide, by decide⟩, by decide, rfl, ⟨zmem (p := 1917) rfl rfl, zmem (p := 1918) rfl rfl⟩⟩
set_option maxRecDepth 100000 in
theorem zm_255 : zMk 255 := ⟨zmem (p := 1931) rfl rfl, zmem (p := 142) rfl rfl, ⟨by decide, by decide⟩, by decide, rfl, ⟨zmem (p := 1929) rfl rfl, zmem (p := 1930) rfl rfl⟩⟩
set_option maxRecDepth 100000 in
theorem zm_256 : zMk 256 := ⟨zmem (p := 1942) rfl rfl, zmem (p := 142) rfl rfl, ⟨by decide, by decide⟩, by decide, rfl, zmem (p := 1941) rfl rfl⟩
set_option maxRecDepth 100000 in
theorem zm_257 : zMk 257 := ⟨zmem (p := 1962) rfl rfl, zmem (p := 142) rfl rfl, ⟨by decide, by decide⟩, by decide, rfl, ⟨zmem (p := 1961) rfl rfl, zmem (p := 99) rfl rfl⟩⟩
set_option maxRecDepth 100000 in
theorem zm_258 : zMk 258 := ⟨zmem (p := 1950) rfl rfl, zmem (p := 142) rfl rfl, ⟨by decide, by decide⟩, by decide, rfl, ⟨zmem (p := 1949) rfl rfl, zmem (p := 96) rfl rfl⟩⟩
set_option maxRecDepth 100000 in
theorem zm_259 : zMk 259 := ⟨zmem (p := 1954) rfl rfl, zmem (p := 142) rfl rfl, ⟨by decide, by decide⟩, by decide, rfl, ⟨zmem (p := 1953) rfl rfl, zmem (p := 97) rfl rfl⟩⟩
set_option maxRecDepth 100000 in
theorem zm_260 : zMk 260 := ⟨zmem (p := 1958) rfl rfl, zmem (p := 142) rfl rfl, ⟨by decide, by decide⟩, by decide, rfl, ⟨zmem (p := 1957) rfl rfl, zmem (p := 98) rfl rfl⟩⟩
set_option maxRecDepth 100000 in
theorem zm_261 : zMk 261 := ⟨zmem (p := 1946) rfl rfl, zmem (p := 142) rfl rfl, ⟨by decide, by decide⟩, by decide, rfl, ⟨zmem (p := 1945) rfl rfl, zmem (p := 95) rfl rfl⟩⟩
set_option maxRecDepth 100000 in
theorem zm_262 : zMk 262 := ⟨zmem (p := 1966) rfl rfl, zmem (p := 142) rfl rfl, ⟨by decide, by decide⟩, by decide, rfl, ⟨zmem (p := 1965) rfl rfl, zmem (p := 100) rfl rfl⟩⟩
set_option maxRecDepth 100000 in
theorem zm_263 : zMk 263 := ⟨zmem (p := 1970) rfl rfl, zmem (p := 142) rfl rfl, ⟨by decide, by decide⟩, by decide, rfl, ⟨zmem (p := 1969) rfl rfl, zmem (p := 101) rfl rfl⟩⟩
set_option maxRecDepth 100000 in
theorem zm_264 : zMk 264 := ⟨zmem (p := 1939) rfl rfl, zmem (p := 142) rfl rfl, ⟨by decide, by decide⟩, by decide, rfl, ⟨zmem (p := 1938) rfl rfl, zmem (p := 94) rfl rfl⟩⟩
set_option maxRecDepth 100000 in
theorem zm_265 : zMk 265 := ⟨zmem (p := 1935) rfl rfl, zmem (p := 142) rfl rfl, ⟨by decide, by decide⟩, by decide, rfl, ⟨zmem (p := 1933) rfl rfl, zmem (p := 1934) rfl rfl⟩⟩
set_option maxRecDepth 100000 in
theorem zm_266 : zMk 266 := ⟨zmem (p := 1986) rfl rfl, zmem (p := 142) rfl rfl, ⟨by decide, by decide⟩, by decide, rfl, ⟨zmem (p := 1985) rfl rfl, zmem (p := 104) rfl rfl⟩⟩
set_option maxRecDepth 100000 in
theorem zm_267 : zMk 267 := ⟨zmem (p := 1982) rfl rfl, zmem (p := 142) rfl rfl, ⟨by decide, by decide⟩, by decide, rfl, ⟨zmem (p := 1981) rfl rfl, zmem (p := 103) rfl rfl⟩⟩
set_option maxRecDepth 100000 in
theorem zm_268 : zMk 268 := ⟨zmem (p := 1978) rfl rfl, zmem (p := 142) rfl rfl, ⟨by decide, by decide⟩, by decide, rfl, ⟨zmem (p := 1977) rfl rfl, zmem (p := 102) rfl rfl⟩⟩
set_option maxRecDepth 100000 in
theorem zm_269 : zMk 269 := ⟨zmem (p := 1974) rfl rfl, zmem (p := 142) rfl rfl, ⟨by decide, by decide⟩, by decide, rfl, ⟨zmem (p := 1972) rfl rfl, zmem (p := 1973) rfl rfl⟩⟩
set_option maxRecDepth 100000 in
theorem zm_270 : zMk 270 := ⟨zmem (p := 1990) rfl rfl, zmem (p := 142) rfl rfl, ⟨by decide, by decide⟩, by decide, rfl, ⟨zmem (p := 1988) rfl rfl, zmem (p := 1989) rfl rfl⟩⟩
set_option maxRecDepth 100000 in
theorem zm_271 : zMk 271 := ⟨zmem (p := 1994) rfl rfl, zmem (p := 142) rfl rfl, ⟨by decide, by decide⟩, by decide, rfl, ⟨zmem (p := 1992) rfl rfl, zmem (p := 1993) rfl rfl⟩⟩
set_option maxRecDepth 100000 in
theorem zm_272 : zMk 272 := ⟨zmem (p := 1998) rfl rfl, zmem (p := 142) rfl rfl, ⟨by decide, by decide⟩, by decide, rfl, ⟨zmem (p := 1996) rfl rfl, zmem (p := 1997) rfl rfl⟩⟩
set_option maxRecDepth 100000 in
theorem zm_273 : zMk 273 := ⟨zmem (p := 2007) rfl rfl, zmem (p := 142) rfl rfl, ⟨by decide, by decide⟩, by decide, rfl, ⟨zmem (p := 2006) rfl rfl, zmem (p := 105) rfl rfl⟩⟩
set_option maxRecDepth 100000 in
theorem zm_274 : zMk 274 := ⟨zmem (p := 2016) rfl rfl, zmem (p := 142) rfl rfl, ⟨by decide, by decide⟩, by decide, rfl, ⟨zmem (p := 2015) rfl rfl, zmem (p := 106) rfl rfl⟩⟩
set_option maxRecDepth 100000 in
theorem zm_275 : zMk 275 := ⟨zmem (p := 2003) rfl rfl, zmem (p := 142) rfl rfl, ⟨by decide, by decide⟩, by decide, rfl, ⟨zmem (p := 2001) rfl rfl, zmem (p := 2002) rfl rfl⟩⟩
set_option maxRecDepth 100000 in
theorem zm_276 : zMk 276 := ⟨zmem (p := 2011) rfl rfl, zmem (p := 142) rfl rfl, ⟨by decide, by decide⟩, by decide, rfl, ⟨zmem (p := 2009) rfl rfl, zmem (p := 2010) rfl rfl⟩⟩
set_option maxRecDepth 100000 in
theorem zm_277 : zMk 277 := ⟨zmem (p := 2024) rfl rfl, zmem (p := 142) rfl rfl, ⟨by decide, by decide⟩, by decide, rfl, ⟨zmem (p := 2023) rfl rfl, zmem (p := 107) rfl rfl⟩⟩
set_option maxRecDepth 100000 in
theorem zm_278 : zMk 278 := ⟨zmem (p := 2028) rfl rfl, zmem (p := 142) rfl rfl, ⟨by decide, by decide⟩, by decide, rfl, ⟨zmem (p := 2027) rfl rfl, zmem (p := 108) rfl rfl⟩⟩
set_option maxRecDepth 100000 in
theorem zm_279 : zMk 279 := ⟨zmem (p := 2020) rfl rfl, zmem (p := 142) rfl rfl, ⟨by decide, by decide⟩, by decide, rfl, ⟨zmem (p := 2018) rfl rfl, zmem (p := 2019) rfl rfl⟩⟩
set_option maxRecDepth 100000 in
theorem zm_280 : zMk 280 := ⟨zmem (p := 2032) rfl rfl, zmem (p := 142) rfl rfl, ⟨by decide, by decide⟩, by decide, rfl, ⟨zmem (p := 2030) rfl rfl, zmem (p := 2031) rfl rfl⟩⟩
set_option maxRecDepth 100000 in
theorem zm_281 : zMk 281 := ⟨zmem (p := 2048) rfl rfl, zmem (p := 142) rfl rfl, ⟨by decide, by decide⟩, by decide, rfl, zmem (p := 2047) rfl rfl⟩
set_option maxRecDepth 100000 in
theorem zm_282 : zMk 282 := ⟨zmem (p := 2045) rfl rfl, zmem (p := 142) rfl rfl, ⟨by decide, by decide⟩, by decide, rfl, ⟨zmem (p := 2044) rfl rfl, zmem (p := 110) rfl rfl⟩⟩
set_option maxRecDepth 100000 in
theorem zm_283 : zMk 283 := ⟨zmem (p := 2052) rfl rfl, zmem (p := 142) rfl rfl, ⟨by decide, by decide⟩, by decide, rfl, ⟨zmem (p := 2051) rfl rfl, zmem (p := 111) rfl rfl⟩⟩
set_option maxRecDepth 100000 in
theorem zm_284 : zMk 284 := ⟨zmem (p := 2040) rfl rfl, zmem (p := 142) rfl rfl, ⟨by decide, by decide⟩, by decide, rfl, ⟨zmem (p := 2039) rfl rfl, zmem (p := 109) rfl rfl⟩⟩
set_option maxRecDepth 100000 in
theorem zm_285 : zMk 285 := ⟨zmem (p := 2036) rfl rfl, zmem (p := 142) rfl rfl, ⟨by decide, by decide⟩, by decide, rfl, ⟨zmem (p := 2034) rfl rfl, zmem (p := 2035) rfl rfl⟩⟩
set_option maxRecDepth 100000 in
theorem zm_286 : zMk 286 := ⟨zmem (p := 2056) rfl rfl, zmem (p := 142) rfl rfl, ⟨by decide, by decide⟩, by decide, rfl, ⟨zmem (p := 2054) rfl rfl, zmem (p := 2055) rfl rfl⟩⟩
set_option maxRecDepth 100000 in
theorem zm_287 : zMk 287 := ⟨zmem (p := 2060) rfl rfl, zmem (p := 142) rfl rfl, ⟨by decide, by decide⟩, by decide, rfl, ⟨zmem (p := 2058) rfl rfl, zmem (p := 2059) rfl rfl⟩⟩
set_option maxRecDepth 100000 in
theorem zm_288 : zMk 288 := ⟨zmem (p := 2076) rfl rfl, zmem (p := 142) rfl rfl, ⟨by decide, by decide⟩, by decide, rfl, ⟨zmem (p := 2075) rfl rfl, zmem (p := 113) rfl rfl⟩⟩
set_option maxRecDepth 100000 in
theorem zm_289 : zMk 289 := ⟨zmem (p := 2064) rfl rfl, zmem (p := 142) rfl rfl, ⟨by decide, by decide⟩, by decide, rfl, ⟨zmem (p := 2062) rfl rfl, zmem (p := 2063) rfl rfl⟩⟩
set_option maxRecDepth 100000 in
theorem zm_290 : zMk 290 := ⟨zmem (p := 2072) rfl rfl, zmem (p := 142) rfl rfl, ⟨by decide, by decide⟩, by decide, rfl, ⟨zmem (p := 2071) rfl rfl, zmem (p := 112) rfl rfl⟩⟩
set_option maxRecDepth 100000 in
theorem zm_291 : zMk 291 := ⟨zmem (p := 2068) rfl rfl, zmem (p := 142) rfl rfl, ⟨by decide, by decide⟩, by decide, rfl, ⟨zmem (p := 2066) rfl rfl, zmem (p := 2067) rfl rfl⟩⟩
set_option maxRecDepth 100000 in
theorem zm_292 : zMk 292 := ⟨zmem (p := 2080) rfl rfl, zmem (p := 142) rfl rfl, ⟨by decide, by decide⟩, by decide, rfl, ⟨zmem (p := 2078) rfl rfl, zmem (p := 2079) rfl rfl⟩⟩
set_option maxRecDepth 100000 in
theorem zm_293 : zMk 293 := ⟨zmem (p := 2084) rfl rfl, zmem (p := 142) rfl rfl, ⟨by decide, by decide⟩, by decide, rfl, ⟨zmem (p := 2082) rfl rfl, zmem (p := 2083) rfl rfl⟩⟩
set_option maxRecDepth 100000 in
theorem zm_294 : zMk 294 := ⟨zmem (p := 2088) rfl rfl, zmem (p := 142) rfl rfl, ⟨by decide, by decide⟩, by decide, rfl, ⟨zmem (p := 2086) rfl rfl, zmem (p := 2087) rfl rfl⟩⟩
set_option maxRecDepth 100000 in
theorem zm_295 : zMk 295 := ⟨zmem (p := 2092) rfl rfl, zmem (p := 142) rfl rfl, ⟨by decide, by decide⟩, by decide, rfl, ⟨zmem (p := 2090) rfl rfl, zmem (p := 2091) rfl rfl⟩⟩
set_option maxRecDepth 100000 in
theorem zm_296 : zMk 296 := ⟨zmem (p := 2112) rfl rfl, zmem (p := 142) rfl rfl, ⟨by decide, by decide⟩, by decide, rfl, ⟨zmem (p := 2111) rfl rfl, zmem (p := 117) rfl rfl⟩⟩
set_option maxRecDepth 100000 in
theorem zm_297 : zMk 297 := ⟨zmem (p := 2108) rfl rfl, zmem (p := 142) rfl rfl, ⟨by decide, by decide⟩, by decide, rfl, ⟨zmem (p := 2107) rfl rfl, zmem (p := 116) rfl rfl⟩⟩
set_option maxRecDepth 100000 in
theorem zm_298 : zMk 298 := ⟨zmem (p := 2104) rfl rfl, zmem (p := 142) rfl rfl, ⟨by decide, by decide⟩, by decide, rfl, ⟨zmem (p := 2103) rfl rfl, zmem (p := 115) rfl rfl⟩⟩
set_option maxRecDepth 100000 in
theorem zm_299 : zMk 299 := ⟨zmem (p := 2100) rfl rfl, zmem (p := 142) rfl rfl, ⟨by decide, by decide⟩, by decide, rfl, ⟨zmem (p := 2099) rfl rfl, zmem (p := 114) rfl rfl⟩⟩
set_option maxRecDepth 100000 in
theorem zm_300 : zMk 300 := ⟨zmem (p := 2096) rfl rfl, zmem (p := 142) rfl rfl, ⟨by decide, by decide⟩, by decide, rfl, ⟨zmem (p := 2094) rfl rfl, zmem (p := 2095) rfl rfl⟩⟩
set_option maxRecDepth 100000 in
theorem zm_301 : zMk 301 := ⟨zmem (p := 2120) rfl rfl, zmem (p := 142) rfl rfl, ⟨by decide, by decide⟩, by decide, rfl, ⟨zmem (p := 2119) rfl rfl, zmem (p := 118) rfl rfl⟩⟩
set_option maxRecDepth 100000 in
theorem zm_302 : zMk 302 := ⟨zmem (p := 2116) rfl rfl, zmem (p := 142) rfl rfl, ⟨by decide, by decide⟩, by decide, rfl, ⟨zmem (p := 2114) rfl rfl, zmem (p := 2115) rfl rfl⟩⟩
set_option maxRecDepth 100000 in
theorem zm_303 : zMk 303 := ⟨zmem (p := 2124) rfl rfl, zmem (p := 142) rfl rfl, ⟨by decide, by decide⟩, by decide, rfl, ⟨zmem (p := 2122) rfl rfl, zmem (p := 2123) rfl rfl⟩⟩
set_option maxRecDepth 100000 in
theorem zm_304 : zMk 304 := ⟨zmem (p := 2135) rfl rfl, zmem (p := 142) rfl rfl, ⟨by decide, by decide⟩, by decide, rfl, zmem (p := 2134) rfl rfl⟩
set_option maxRecDepth 100000 in
theorem zm_305 : zMk 305 := ⟨zmem (p := 2132) rfl rfl, zmem (p := 142) rfl rfl, ⟨by decide, by decide⟩, by decide, rfl, ⟨zmem (p := 2131) rfl rfl, zmem (p := 119) rfl rfl⟩⟩
set_option maxRecDepth 100000 in
theorem zm_306 : zMk 306 := ⟨zmem (p := 2128) rfl rfl, zmem (p := 142) rfl rfl, ⟨by decide, by decide⟩, by decide, rfl, ⟨zmem (p := 2126) rfl rfl, zmem (p := 2127) rfl rfl⟩⟩
set_option maxRecDepth 100000 in
theorem zm_307 : zMk 307 := ⟨zmem (p := 2139) rfl rfl, zmem (p := 142) rfl rfl, ⟨by decide, by decide⟩, by decide, rfl, ⟨zmem (p := 2137) rfl rfl, zmem (p := 2138) rfl rfl⟩⟩
set_option maxRecDepth 100000 in
theorem zm_308 : zMk 308 := ⟨zmem (p := 2148) rfl rfl, zmem (p := 142) rfl rfl, ⟨by decide, by decide⟩, by decide, rfl, ⟨zmem (p := 2147) rfl rfl, zmem (p := 120) rfl rfl⟩⟩
set_option maxRecDepth 100000 in
theorem zm_309 : zMk 309 := ⟨zmem (p := 2144) rfl rfl, zmem (p := 142) rfl rfl, ⟨by decide, by decide⟩, by decide, rfl, ⟨zmem (p := 2142) rfl rfl, zmem (p := 2143) rfl rfl⟩⟩
set_option maxRecDepth 100000 in
theorem zm_310 : zMk 310 := ⟨zmem (p := 2156) rfl rfl, zmem (p := 142) rfl rfl, ⟨by decide, by decide⟩, by decide, rfl, ⟨zmem (p := 2155) rfl rfl, zmem (p := 121) rfl rfl⟩⟩
set_option maxRecDepth 100000 in
theorem zm_311 : zMk 311 := ⟨zmem (p := 2152) rfl rfl, zmem (p := 142) rfl rfl, ⟨by decide, by decide⟩, by decide, rfl, ⟨zmem (p := 2150) rfl rfl, zmem (p := 2151) rfl rfl⟩⟩
set_option maxRecDepth 100000 in
theorem zm_312 : zMk 312 := ⟨zmem (p := 2160) rfl rfl, zmem (p := 142) rfl rfl, ⟨by decide, by decide⟩, by decide, rfl, ⟨zmem (p := 2158) rfl rfl, zmem (p := 2159) rfl rfl⟩⟩
set_option maxRecDepth 100000 in
theorem zm_313 : zMk 313 := ⟨zmem (p := 2171) rfl rfl, zmem (p := 142) rfl rfl, ⟨by decide, by decide⟩, by decide, rfl, zmem (p := 2170) rfl rfl⟩
set_option maxRecDepth 100000 in
theorem zm_314 : zMk 314 := ⟨zmem (p := 2168) rfl rfl, zmem (p := 142) rfl rfl, ⟨by decide, by decide⟩, by decide, rfl, ⟨zmem (p := 2167) rfl rfl, zmem (p := 122) rfl rfl⟩⟩
set_option maxRecDepth 100000 in
theorem zm_315 : zMk 315 := ⟨zmem (p := 2174) rfl rfl, zmem (p := 142) rfl rfl, ⟨by decide, by decide⟩, by decide, rfl, zmem (p := 2173) rfl rfl⟩
set_option maxRecDepth 100000 in
theorem zm_316 : zMk 316 := ⟨zmem (p := 2164) rfl rfl, zmem (p := 142) rfl rfl, ⟨by decide, by decide⟩, by decide, rfl, ⟨zmem (p := 2162) rfl rfl, zmem (p := 2163) rfl rfl⟩⟩
set_option maxRecDepth 100000 in
theorem zm_317 : zMk 317 := ⟨zmem (p := 2178) rfl rfl, zmem (p := 142) rfl rfl, ⟨by decide, by decide⟩, by decide, rfl, ⟨zmem (p := 2176) rfl rfl, zmem (p := 2177) rfl rfl⟩⟩
set_option maxRecDepth 100000 in
theorem zm_318 : zMk 318 := ⟨zmem (p := 2182) rfl rfl, zmem (p := 142) rfl rfl, ⟨by decide, by decide⟩, by decide, rfl, ⟨zmem (p := 2180) rfl rfl, zmem (p := 2181) rfl rfl⟩⟩
set_option maxRecDepth 100000 in
theorem zm_319 : zMk 319 := ⟨zmem (p := 2186) rfl rfl, zmem (p := 142) rfl rfl, ⟨by decide, by decide⟩, by decide, rfl, ⟨zmem (p := 2184) rfl rfl, zmem (p := 2185) rfl rfl⟩⟩
set_option maxRecDepth 100000 in
theorem zm_320 : zMk 320 := ⟨zmem (p := 2204) rfl rfl, zmem (p := 142) rfl rfl, ⟨by decide, by decide⟩, by decide, rfl, zmem (p := 2203) rfl rfl⟩
set_option maxRecDepth 100000 in
theorem zm_321 : zMk 321 := ⟨zmem (p := 2201) rfl rfl, zmem (p := 142) rfl rfl, ⟨by decide, by decide⟩, by decide, rfl, zmem (p := 2200) rfl rfl⟩
set_option maxRecDepth 100000 in
theorem zm_322 : zMk 322 := ⟨zmem (p := 2198) rfl rfl, zmem (p := 142) rfl rfl, ⟨by decide, by decide⟩, by decide, rfl, ⟨zmem (p := 2197) rfl rfl, zmem (p := 124) rfl rfl⟩⟩
set_option maxRecDepth 100000 in
theorem zm_323 : zMk 323 := ⟨zmem (p := 2194) rfl rfl, zmem (p := 142) rfl rfl, ⟨by decide, by decide⟩, by decide, rfl, ⟨zmem (p := 2193) rfl rfl, zmem (p := 123) rfl rfl⟩⟩
set_option maxRecDepth 100000 in
theorem zm_324 : zMk 324 := ⟨zmem (p := 2190) rfl rfl, zmem (p := 142) rfl rfl, ⟨by decide, by decide⟩, by decide, rfl, ⟨zmem (p := 2188) rfl rfl, zmem (p := 2189) rfl rfl⟩⟩
set_option maxRecDepth 100000 in
theorem zm_325 : zMk 325 := ⟨zmem (p := 2208) rfl rfl, zmem (p := 142) rfl rfl, ⟨by decide, by decide⟩, by decide, rfl, ⟨zmem (p := 2206) rfl rfl, zmem (p := 2207) rfl rfl⟩⟩
set_option maxRecDepth 100000 in
theorem zm_326 : zMk 326 := ⟨zmem (p := 2212) rfl rfl, zmem (p := 142) rfl rfl, ⟨by decide, by decide⟩, by decide, rfl, ⟨zmem (p := 2210) rfl rfl, zmem (p := 2211) rfl rfl⟩⟩
set_option maxRecDepth 100000 in
theorem zm_327 : zMk 327 := ⟨zmem (p := 2216) rfl rfl, zmem (p := 142) rfl rfl, ⟨by decide, by decide⟩, by decide, rfl, ⟨zmem (p := 2214) rfl rfl, zmem (p := 2215) rfl rfl⟩⟩
set_option maxRecDepth 100000 in
theorem zm_328 : zMk 328 := ⟨zmem (p := 1463) rfl rfl, zmem (p := 147) rfl rfl, ⟨by decide, by decide⟩, by decide, rfl, zmem (p := 1462) rfl rfl⟩
set_option maxRecDepth 100000 in
theorem zm_329 : zMk 329 := ⟨zmem (p := 1460) rfl rfl, zmem (p := 146) rfl rfl, ⟨by decide, by decide⟩, by decide, rfl, zmem (p := 1459) rfl rfl⟩
set_option maxRecDepth 100000 in
theorem zm_330 : zMk 330 := ⟨zmem (p := 1432) rfl rfl, zmem (p := 146) rfl rfl, ⟨by decide, by decide⟩, by decide, rfl, zmem (p := 1431) rfl rfl⟩
set_option maxRecDepth 100000 in
theorem zm_331 : zMk 331 := ⟨zmem (p := 432) rfl rfl, zmem (p := 137) rfl rfl, ⟨by decide, by decide⟩, by decide, rfl, ⟨zmem (p := 430) rfl rfl, zmem (p := 431) rfl rfl⟩⟩
set_option maxRecDepth 100000 in
theorem zm_332 : zMk 332 := ⟨zmem (p := 724) rfl rfl, zmem (p := 137) rfl rfl, ⟨by decide, by decide⟩, by decide, rfl, ⟨zmem (p := 722) rfl rfl, zmem (p := 723) rfl rfl⟩⟩
set_option maxRecDepth 100000 in
theorem zm_333 : zMk 333 := ⟨zmem (p := 442) rfl rfl, zmem (p := 137) rfl rfl, ⟨by decide, by decide⟩, by decide, rfl, ⟨zmem (p := 440) rfl rfl, zmem (p := 441) rfl rfl⟩⟩
set_option maxRecDepth 100000 in
theorem zm_334 : zMk 334 := ⟨zmem (p := 436) rfl rfl, zmem (p := 137) rfl rfl, ⟨by decide, by decide⟩, by decide, rfl, ⟨zmem (p := 434) rfl rfl, zmem (p := 435) rfl rfl⟩⟩
set_option maxRecDepth 100000 in
theorem zm_335 : zMk 335 := ⟨zmem (p := 446) rfl rfl, zmem (p := 137) rfl rfl, ⟨by decide, by decide⟩, by decide, rfl, ⟨zmem (p := 444) rfl rfl, zmem (p := 445) rfl rfl⟩⟩
set_option maxRecDepth 100000 in
theorem zm_336 : zMk 336 := ⟨zmem (p := 452) rfl rfl, zmem (p := 137) rfl rfl, ⟨by decide, by decide⟩, by decide, rfl, zmem (p := 451) rfl rfl⟩
set_option maxRecDepth 100000 in
theorem zm_337 : zMk 337 := ⟨zmem (p := 449) rfl rfl, zmem (p := 138) rfl rfl, ⟨by decide, by decide⟩, by decide, rfl, zmem (p := 448) rfl rfl⟩
set_option maxRecDepth 100000 in
theorem zm_338 : zMk 338 := ⟨zmem (p := 1273) rfl rfl, zmem (p := 144) rfl rfl, ⟨by decide, by decide⟩, by decide, rfl, zmem (p := 1272) rfl rfl⟩
set_option maxRecDepth 100000 in
theorem zm_339 : zMk 339 := ⟨zmem (p := 951) rfl rfl, zmem (p := 144) rfl rfl, ⟨by decide, by decide⟩, by decide, rfl, zmem (p := 950) rfl rfl⟩
set_option maxRecDepth 100000 in
theorem zm_340 : zMk 340 := ⟨zmem (p := 457) rfl rfl, zmem (p := 139) rfl rfl, ⟨by decide, by decide⟩, by decide, rfl, zmem (p := 456) rfl rfl⟩
set_option maxRecDepth 100000 in
theorem zm_341 : zMk 341 := ⟨zmem (p := 1329) rfl rfl, zmem (p := 133) rfl rfl, ⟨by decide, by decide⟩, by decide, rfl, ⟨zmem (p := 1328) rfl rfl, zmem (p := 44) rfl rfl⟩⟩
