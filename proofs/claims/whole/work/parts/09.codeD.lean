theorem sr_is_app {cc : ByteArray} {as bs : List (Instr × Nat × Nat)} : ∀ {pc : Nat}, sr_is cc pc as = true → sr_is cc (sr_end pc as) bs = true → sr_is cc pc (as ++ bs) = true := by
  induction as with
  | nil => intro pc _ h; exact h
  | cons a as ih =>
    intro pc h1 h2
    obtain ⟨i, nx, tg⟩ := a
    simp only [List.cons_append, sr_is, Bool.and_eq_true] at h1 ⊢
    exact ⟨h1.1, ih h1.2 h2⟩
def iL_law_1449 : List (Instr × Nat × Nat) := [(.iconst 1, 1450, 0), (.ireturn, 1451, 0)]
def aL_law_1443 : List (Instr × Nat × Nat) := [(.iinc 3 6, 1446, 0), (.goto (-1428), 1449, 18)]
def iL_law_1443 : List (Instr × Nat × Nat) := aL_law_1443 ++ iL_law_1449
def aL_law_1429 : List (Instr × Nat × Nat) := [(.aload_n 1, 1430, 0), (.invokevirtual 199, 1433, 0), (.aload_n 2, 1434, 0), (.invokevirtual 202, 1437, 0), (.lcmp, 1438, 0), (.ifCond .eq 5, 1441, 1443), (.iconst 0, 1442, 0), (.ireturn, 1443, 0)]
def iL_law_1429 : List (Instr × Nat × Nat) := aL_law_1429 ++ iL_law_1443
def aL_law_1406 : List (Instr × Nat × Nat) := [(.aload_n 1, 1407, 0), (.aload_n 0, 1408, 0), (.iload_n 3, 1409, 0), (.iconst 1, 1410, 0), (.iadd, 1411, 0), (.iaload, 1412, 0), (.invokevirtual 195, 1415, 0), (.aload_n 2, 1416, 0), (.aload_n 0, 1417, 0), (.iload_n 3, 1418, 0), (.iconst 1, 1419, 0), (.iadd, 1420, 0), (.iaload, 1421, 0), (.invokevirtual 198, 1424, 0), (.if_icmp .eq 19, 1427, 1443), (.iconst 0, 1428, 0), (.ireturn, 1429, 0)]
def iL_law_1406 : List (Instr × Nat × Nat) := aL_law_1406 ++ iL_law_1429
def aL_law_1393 : List (Instr × Nat × Nat) := [(.aload_n 1, 1394, 0), (.invokevirtual 191, 1397, 0), (.aload_n 2, 1398, 0), (.invokevirtual 194, 1401, 0), (.if_icmp .eq 42, 1404, 1443), (.iconst 0, 1405, 0), (.ireturn, 1406, 0)]
def iL_law_1393 : List (Instr × Nat × Nat) := aL_law_1393 ++ iL_law_1406
def aL_law_1370 : List (Instr × Nat × Nat) := [(.aload_n 1, 1371, 0), (.aload_n 0, 1372, 0), (.iload_n 3, 1373, 0), (.iconst 1, 1374, 0), (.iadd, 1375, 0), (.iaload, 1376, 0), (.invokevirtual 187, 1379, 0), (.aload_n 2, 1380, 0), (.aload_n 0, 1381, 0), (.iload_n 3, 1382, 0), (.iconst 1, 1383, 0), (.iadd, 1384, 0), (.iaload, 1385, 0), (.invokevirtual 190, 1388, 0), (.if_icmp .eq 55, 1391, 1443), (.iconst 0, 1392, 0), (.ireturn, 1393, 0)]
def iL_law_1370 : List (Instr × Nat × Nat) := aL_law_1370 ++ iL_law_1393
def aL_law_1356 : List (Instr × Nat × Nat) := [(.aload_n 1, 1357, 0), (.invokevirtual 183, 1360, 0), (.aload_n 2, 1361, 0), (.invokevirtual 186, 1364, 0), (.lcmp, 1365, 0), (.ifCond .eq 78, 1368, 1443), (.iconst 0, 1369, 0), (.ireturn, 1370, 0)]
def iL_law_1356 : List (Instr × Nat × Nat) := aL_law_1356 ++ iL_law_1370
def aL_law_1342 : List (Instr × Nat × Nat) := [(.aload_n 1, 1343, 0), (.invokevirtual 178, 1346, 0), (.aload_n 2, 1347, 0), (.invokevirtual 182, 1350, 0), (.lcmp, 1351, 0), (.ifCond .eq 92, 1354, 1443), (.iconst 0, 1355, 0), (.ireturn, 1356, 0)]
def iL_law_1342 : List (Instr × Nat × Nat) := aL_law_1342 ++ iL_law_1356
def aL_law_1329 : List (Instr × Nat × Nat) := [(.aload_n 1, 1330, 0), (.invokevirtual 174, 1333, 0), (.aload_n 2, 1334, 0), (.invokevirtual 177, 1337, 0), (.if_icmp .eq 106, 1340, 1443), (.iconst 0, 1341, 0), (.ireturn, 1342, 0)]
def iL_law_1329 : List (Instr × Nat × Nat) := aL_law_1329 ++ iL_law_1342
def aL_law_1296 : List (Instr × Nat × Nat) := [(.aload_n 1, 1297, 0), (.aload_n 0, 1298, 0), (.iload_n 3, 1299, 0), (.iconst 1, 1300, 0), (.iadd, 1301, 0), (.iaload, 1302, 0), (.aload_n 0, 1303, 0), (.iload_n 3, 1304, 0), (.iconst 2, 1305, 0), (.iadd, 1306, 0), (.iaload, 1307, 0), (.invokevirtual 170, 1310, 0), (.aload_n 2, 1311, 0), (.aload_n 0, 1312, 0), (.iload_n 3, 1313, 0), (.iconst 1, 1314, 0), (.iadd, 1315, 0), (.iaload, 1316, 0), (.aload_n 0, 1317, 0), (.iload_n 3, 1318, 0), (.iconst 2, 1319, 0), (.iadd, 1320, 0), (.iaload, 1321, 0), (.invokevirtual 173, 1324, 0), (.if_icmp .eq 119, 1327, 1443), (.iconst 0, 1328, 0), (.ireturn, 1329, 0)]
def iL_law_1296 : List (Instr × Nat × Nat) := aL_law_1296 ++ iL_law_1329
def aL_law_1263 : List (Instr × Nat × Nat) := [(.aload_n 1, 1264, 0), (.aload_n 0, 1265, 0), (.iload_n 3, 1266, 0), (.iconst 1, 1267, 0), (.iadd, 1268, 0), (.iaload, 1269, 0), (.aload_n 0, 1270, 0), (.iload_n 3, 1271, 0), (.iconst 2, 1272, 0), (.iadd, 1273, 0), (.iaload, 1274, 0), (.invokevirtual 166, 1277, 0), (.aload_n 2, 1278, 0), (.aload_n 0, 1279, 0), (.iload_n 3, 1280, 0), (.iconst 1, 1281, 0), (.iadd, 1282, 0), (.iaload, 1283, 0), (.aload_n 0, 1284, 0), (.iload_n 3, 1285, 0), (.iconst 2, 1286, 0), (.iadd, 1287, 0), (.iaload, 1288, 0), (.invokevirtual 169, 1291, 0), (.if_icmp .eq 152, 1294, 1443), (.iconst 0, 1295, 0), (.ireturn, 1296, 0)]
def iL_law_1263 : List (Instr × Nat × Nat) := aL_law_1263 ++ iL_law_1296
def aL_law_1240 : List (Instr × Nat × Nat) := [(.aload_n 1, 1241, 0), (.aload_n 0, 1242, 0), (.iload_n 3, 1243, 0), (.iconst 1, 1244, 0), (.iadd, 1245, 0), (.iaload, 1246, 0), (.invokevirtual 162, 1249, 0), (.aload_n 2, 1250, 0), (.aload_n 0, 1251, 0), (.iload_n 3, 1252, 0), (.iconst 1, 1253, 0), (.iadd, 1254, 0), (.iaload, 1255, 0), (.invokevirtual 165, 1258, 0), (.if_icmp .eq 185, 1261, 1443), (.iconst 0, 1262, 0), (.ireturn, 1263, 0)]
def iL_law_1240 : List (Instr × Nat × Nat) := aL_law_1240 ++ iL_law_1263
def aL_law_1207 : List (Instr × Nat × Nat) := [(.aload_n 1, 1208, 0), (.aload_n 0, 1209, 0), (.iload_n 3, 1210, 0), (.iconst 1, 1211, 0), (.iadd, 1212, 0), (.iaload, 1213, 0), (.aload_n 0, 1214, 0), (.iload_n 3, 1215, 0), (.iconst 2, 1216, 0), (.iadd, 1217, 0), (.iaload, 1218, 0), (.invokevirtual 158, 1221, 0), (.aload_n 2, 1222, 0), (.aload_n 0, 1223, 0), (.iload_n 3, 1224, 0), (.iconst 1, 1225, 0), (.iadd, 1226, 0), (.iaload, 1227, 0), (.aload_n 0, 1228, 0), (.iload_n 3, 1229, 0), (.iconst 2, 1230, 0), (.iadd, 1231, 0), (.iaload, 1232, 0), (.invokevirtual 161, 1235, 0), (.if_icmp .eq 208, 1238, 1443), (.iconst 0, 1239, 0), (.ireturn, 1240, 0)]
def iL_law_1207 : List (Instr × Nat × Nat) := aL_law_1207 ++ iL_law_1240
def aL_law_1184 : List (Instr × Nat × Nat) := [(.aload_n 1, 1185, 0), (.aload_n 0, 1186, 0), (.iload_n 3, 1187, 0), (.iconst 1, 1188, 0), (.iadd, 1189, 0), (.iaload, 1190, 0), (.invokevirtual 154, 1193, 0), (.aload_n 2, 1194, 0), (.aload_n 0, 1195, 0), (.iload_n 3, 1196, 0), (.iconst 1, 1197, 0), (.iadd, 1198, 0), (.iaload, 1199, 0), (.invokevirtual 157, 1202, 0), (.if_icmp .eq 241, 1205, 1443), (.iconst 0, 1206, 0), (.ireturn, 1207, 0)]
def iL_law_1184 : List (Instr × Nat × Nat) := aL_law_1184 ++ iL_law_1207
def aL_law_1151 : List (Instr × Nat × Nat) := [(.aload_n 1, 1152, 0), (.aload_n 0, 1153, 0), (.iload_n 3, 1154, 0), (.iconst 1, 1155, 0), (.iadd, 1156, 0), (.iaload, 1157, 0), (.aload_n 0, 1158, 0), (.iload_n 3, 1159, 0), (.iconst 2, 1160, 0), (.iadd, 1161, 0), (.iaload, 1162, 0), (.invokevirtual 150, 1165, 0), (.aload_n 2, 1166, 0), (.aload_n 0, 1167, 0), (.iload_n 3, 1168, 0), (.iconst 1, 1169, 0), (.iadd, 1170, 0), (.iaload, 1171, 0), (.aload_n 0, 1172, 0), (.iload_n 3, 1173, 0), (.iconst 2, 1174, 0), (.iadd, 1175, 0), (.iaload, 1176, 0), (.invokevirtual 153, 1179, 0), (.if_icmp .eq 264, 1182, 1443), (.iconst 0, 1183, 0), (.ireturn, 1184, 0)]
def iL_law_1151 : List (Instr × Nat × Nat) := aL_law_1151 ++ iL_law_1184
def aL_law_1138 : List (Instr × Nat × Nat) := [(.aload_n 1, 1139, 0), (.invokevirtual 146, 1142, 0), (.aload_n 2, 1143, 0), (.invokevirtual 149, 1146, 0), (.if_icmp .eq 297, 1149, 1443), (.iconst 0, 1150, 0), (.ireturn, 1151, 0)]
def iL_law_1138 : List (Instr × Nat × Nat) := aL_law_1138 ++ iL_law_1151
def aL_law_1105 : List (Instr × Nat × Nat) := [(.aload_n 1, 1106, 0), (.aload_n 0, 1107, 0), (.iload_n 3, 1108, 0), (.iconst 1, 1109, 0), (.iadd, 1110, 0), (.iaload, 1111, 0), (.aload_n 0, 1112, 0), (.iload_n 3, 1113, 0), (.iconst 2, 1114, 0), (.iadd, 1115, 0), (.iaload, 1116, 0), (.invokevirtual 142, 1119, 0), (.aload_n 2, 1120, 0), (.aload_n 0, 1121, 0), (.iload_n 3, 1122, 0), (.iconst 1, 1123, 0), (.iadd, 1124, 0), (.iaload, 1125, 0), (.aload_n 0, 1126, 0), (.iload_n 3, 1127, 0), (.iconst 2, 1128, 0), (.iadd, 1129, 0), (.iaload, 1130, 0), (.invokevirtual 145, 1133, 0), (.if_icmp .eq 310, 1136, 1443), (.iconst 0, 1137, 0), (.ireturn, 1138, 0)]
def iL_law_1105 : List (Instr × Nat × Nat) := aL_law_1105 ++ iL_law_1138
def aL_law_1092 : List (Instr × Nat × Nat) := [(.aload_n 1, 1093, 0), (.invokevirtual 138, 1096, 0), (.aload_n 2, 1097, 0), (.invokevirtual 141, 1100, 0), (.if_icmp .eq 343, 1103, 1443), (.iconst 0, 1104, 0), (.ireturn, 1105, 0)]
def iL_law_1092 : List (Instr × Nat × Nat) := aL_law_1092 ++ iL_law_1105
def aL_law_1079 : List (Instr × Nat × Nat) := [(.aload_n 1, 1080, 0), (.invokevirtual 133, 1083, 0), (.aload_n 2, 1084, 0), (.invokevirtual 137, 1087, 0), (.if_icmp .eq 356, 1090, 1443), (.iconst 0, 1091, 0), (.ireturn, 1092, 0)]
def iL_law_1079 : List (Instr × Nat × Nat) := aL_law_1079 ++ iL_law_1092
def aL_law_1056 : List (Instr × Nat × Nat) := [(.aload_n 1, 1057, 0), (.aload_n 0, 1058, 0), (.iload_n 3, 1059, 0), (.iconst 1, 1060, 0), (.iadd, 1061, 0), (.iaload, 1062, 0), (.invokevirtual 129, 1065, 0), (.aload_n 2, 1066, 0), (.aload_n 0, 1067, 0), (.iload_n 3, 1068, 0), (.iconst 1, 1069, 0), (.iadd, 1070, 0), (.iaload, 1071, 0), (.invokevirtual 132, 1074, 0), (.if_icmp .eq 369, 1077, 1443), (.iconst 0, 1078, 0), (.ireturn, 1079, 0)]
def iL_law_1056 : List (Instr × Nat × Nat) := aL_law_1056 ++ iL_law_1079
def aL_law_1023 : List (Instr × Nat × Nat) := [(.aload_n 1, 1024, 0), (.aload_n 0, 1025, 0), (.iload_n 3, 1026, 0), (.iconst 1, 1027, 0), (.iadd, 1028, 0), (.iaload, 1029, 0), (.aload_n 0, 1030, 0), (.iload_n 3, 1031, 0), (.iconst 2, 1032, 0), (.iadd, 1033, 0), (.iaload, 1034, 0), (.invokevirtual 125, 1037, 0), (.aload_n 2, 1038, 0), (.aload_n 0, 1039, 0), (.iload_n 3, 1040, 0), (.iconst 1, 1041, 0), (.iadd, 1042, 0), (.iaload, 1043, 0), (.aload_n 0, 1044, 0), (.iload_n 3, 1045, 0), (.iconst 2, 1046, 0), (.iadd, 1047, 0), (.iaload, 1048, 0), (.invokevirtual 128, 1051, 0), (.if_icmp .eq 392, 1054, 1443), (.iconst 0, 1055, 0), (.ireturn, 1056, 0)]
def iL_law_1023 : List (Instr × Nat × Nat) := aL_law_1023 ++ iL_law_1056
def aL_law_1000 : List (Instr × Nat × Nat) := [(.aload_n 1, 1001, 0), (.aload_n 0, 1002, 0), (.iload_n 3, 1003, 0), (.iconst 1, 1004, 0), (.iadd, 1005, 0), (.iaload, 1006, 0), (.invokevirtual 121, 1009, 0), (.aload_n 2, 1010, 0), (.aload_n 0, 1011, 0), (.iload_n 3, 1012, 0), (.iconst 1, 1013, 0), (.iadd, 1014, 0), (.iaload, 1015, 0), (.invokevirtual 124, 1018, 0), (.if_icmp .eq 425, 1021, 1443), (.iconst 0, 1022, 0), (.ireturn, 1023, 0)]
def iL_law_1000 : List (Instr × Nat × Nat) := aL_law_1000 ++ iL_law_1023
def aL_law_977 : List (Instr × Nat × Nat) := [(.aload_n 1, 978, 0), (.aload_n 0, 979, 0), (.iload_n 3, 980, 0), (.iconst 1, 981, 0), (.iadd, 982, 0), (.iaload, 983, 0), (.invokevirtual 117, 986, 0), (.aload_n 2, 987, 0), (.aload_n 0, 988, 0), (.iload_n 3, 989, 0), (.iconst 1, 990, 0), (.iadd, 991, 0), (.iaload, 992, 0), (.invokevirtual 120, 995, 0), (.if_icmp .eq 448, 998, 1443), (.iconst 0, 999, 0), (.ireturn, 1000, 0)]
def iL_law_977 : List (Instr × Nat × Nat) := aL_law_977 ++ iL_law_1000
def aL_law_954 : List (Instr × Nat × Nat) := [(.aload_n 1, 955, 0), (.aload_n 0, 956, 0), (.iload_n 3, 957, 0), (.iconst 1, 958, 0), (.iadd, 959, 0), (.iaload, 960, 0), (.invokevirtual 113, 963, 0), (.aload_n 2, 964, 0), (.aload_n 0, 965, 0), (.iload_n 3, 966, 0), (.iconst 1, 967, 0), (.iadd, 968, 0), (.iaload, 969, 0), (.invokevirtual 116, 972, 0), (.if_icmp .eq 471, 975, 1443), (.iconst 0, 976, 0), (.ireturn, 977, 0)]
def iL_law_954 : List (Instr × Nat × Nat) := aL_law_954 ++ iL_law_977
def aL_law_921 : List (Instr × Nat × Nat) := [(.aload_n 1, 922, 0), (.aload_n 0, 923, 0), (.iload_n 3, 924, 0), (.iconst 1, 925, 0), (.iadd, 926, 0), (.iaload, 927, 0), (.aload_n 0, 928, 0), (.iload_n 3, 929, 0), (.iconst 2, 930, 0), (.iadd, 931, 0), (.iaload, 932, 0), (.invokevirtual 109, 935, 0), (.aload_n 2, 936, 0), (.aload_n 0, 937, 0), (.iload_n 3, 938, 0), (.iconst 1, 939, 0), (.iadd, 940, 0), (.iaload, 941, 0), (.aload_n 0, 942, 0), (.iload_n 3, 943, 0), (.iconst 2, 944, 0), (.iadd, 945, 0), (.iaload, 946, 0), (.invokevirtual 112, 949, 0), (.if_icmp .eq 494, 952, 1443), (.iconst 0, 953, 0), (.ireturn, 954, 0)]
def iL_law_921 : List (Instr × Nat × Nat) := aL_law_921 ++ iL_law_954
def aL_law_898 : List (Instr × Nat × Nat) := [(.aload_n 1, 899, 0), (.aload_n 0, 900, 0), (.iload_n 3, 901, 0), (.iconst 1, 902, 0), (.iadd, 903, 0), (.iaload, 904, 0), (.invokevirtual 105, 907, 0), (.aload_n 2, 908, 0), (.aload_n 0, 909, 0), (.iload_n 3, 910, 0), (.iconst 1, 911, 0), (.iadd, 912, 0), (.iaload, 913, 0), (.invokevirtual 108, 916, 0), (.if_icmp .eq 527, 919, 1443), (.iconst 0, 920, 0), (.ireturn, 921, 0)]
def iL_law_898 : List (Instr × Nat × Nat) := aL_law_898 ++ iL_law_921
def aL_law_875 : List (Instr × Nat × Nat) := [(.aload_n 1, 876, 0), (.aload_n 0, 877, 0), (.iload_n 3, 878, 0), (.iconst 1, 879, 0), (.iadd, 880, 0), (.iaload, 881, 0), (.invokevirtual 101, 884, 0), (.aload_n 2, 885, 0), (.aload_n 0, 886, 0), (.iload_n 3, 887, 0), (.iconst 1, 888, 0), (.iadd, 889, 0), (.iaload, 890, 0), (.invokevirtual 104, 893, 0), (.if_icmp .eq 550, 896, 1443), (.iconst 0, 897, 0), (.ireturn, 898, 0)]
def iL_law_875 : List (Instr × Nat × Nat) := aL_law_875 ++ iL_law_898
def aL_law_852 : List (Instr × Nat × Nat) := [(.aload_n 1, 853, 0), (.aload_n 0, 854, 0), (.iload_n 3, 855, 0), (.iconst 1, 856, 0), (.iadd, 857, 0), (.iaload, 858, 0), (.invokevirtual 97, 861, 0), (.aload_n 2, 862, 0), (.aload_n 0, 863, 0), (.iload_n 3, 864, 0), (.iconst 1, 865, 0), (.iadd, 866, 0), (.iaload, 867, 0), (.invokevirtual 100, 870, 0), (.if_icmp .eq 573, 873, 1443), (.iconst 0, 874, 0), (.ireturn, 875, 0)]
def iL_law_852 : List (Instr × Nat × Nat) := aL_law_852 ++ iL_law_875
def aL_law_819 : List (Instr × Nat × Nat) := [(.aload_n 1, 820, 0), (.aload_n 0, 821, 0), (.iload_n 3, 822, 0), (.iconst 1, 823, 0), (.iadd, 824, 0), (.iaload, 825, 0), (.aload_n 0, 826, 0), (.iload_n 3, 827, 0), (.iconst 2, 828, 0), (.iadd, 829, 0), (.iaload, 830, 0), (.invokevirtual 93, 833, 0), (.aload_n 2, 834, 0), (.aload_n 0, 835, 0), (.iload_n 3, 836, 0), (.iconst 1, 837, 0), (.iadd, 838, 0), (.iaload, 839, 0), (.aload_n 0, 840, 0), (.iload_n 3, 841, 0), (.iconst 2, 842, 0), (.iadd, 843, 0), (.iaload, 844, 0), (.invokevirtual 96, 847, 0), (.if_icmp .eq 596, 850, 1443), (.iconst 0, 851, 0), (.ireturn, 852, 0)]
def iL_law_819 : List (Instr × Nat × Nat) := aL_law_819 ++ iL_law_852
def aL_law_796 : List (Instr × Nat × Nat) := [(.aload_n 1, 797, 0), (.aload_n 0, 798, 0), (.iload_n 3, 799, 0), (.iconst 1, 800, 0), (.iadd, 801, 0), (.iaload, 802, 0), (.invokevirtual 89, 805, 0), (.aload_n 2, 806, 0), (.aload_n 0, 807, 0), (.iload_n 3, 808, 0), (.iconst 1, 809, 0), (.iadd, 810, 0), (.iaload, 811, 0), (.invokevirtual 92, 814, 0), (.if_icmp .eq 629, 817, 1443), (.iconst 0, 818, 0), (.ireturn, 819, 0)]
def iL_law_796 : List (Instr × Nat × Nat) := aL_law_796 ++ iL_law_819
def aL_law_773 : List (Instr × Nat × Nat) := [(.aload_n 1, 774, 0), (.aload_n 0, 775, 0), (.iload_n 3, 776, 0), (.iconst 1, 777, 0), (.iadd, 778, 0), (.iaload, 779, 0), (.invokevirtual 85, 782, 0), (.aload_n 2, 783, 0), (.aload_n 0, 784, 0), (.iload_n 3, 785, 0), (.iconst 1, 786, 0), (.iadd, 787, 0), (.iaload, 788, 0), (.invokevirtual 88, 791, 0), (.if_icmp .eq 652, 794, 1443), (.iconst 0, 795, 0), (.ireturn, 796, 0)]
def iL_law_773 : List (Instr × Nat × Nat) := aL_law_773 ++ iL_law_796
def aL_law_750 : List (Instr × Nat × Nat) := [(.aload_n 1, 751, 0), (.aload_n 0, 752, 0), (.iload_n 3, 753, 0), (.iconst 1, 754, 0), (.iadd, 755, 0), (.iaload, 756, 0), (.invokevirtual 81, 759, 0), (.aload_n 2, 760, 0), (.aload_n 0, 761, 0), (.iload_n 3, 762, 0), (.iconst 1, 763, 0), (.iadd, 764, 0), (.iaload, 765, 0), (.invokevirtual 84, 768, 0), (.if_icmp .eq 675, 771, 1443), (.iconst 0, 772, 0), (.ireturn, 773, 0)]
def iL_law_750 : List (Instr × Nat × Nat) := aL_law_750 ++ iL_law_773
def aL_law_727 : List (Instr × Nat × Nat) := [(.aload_n 1, 728, 0), (.aload_n 0, 729, 0), (.iload_n 3, 730, 0), (.iconst 1, 731, 0), (.iadd, 732, 0), (.iaload, 733, 0), (.invokevirtual 77, 736, 0), (.aload_n 2, 737, 0), (.aload_n 0, 738, 0), (.iload_n 3, 739, 0), (.iconst 1, 740, 0), (.iadd, 741, 0), (.iaload, 742, 0), (.invokevirtual 80, 745, 0), (.if_icmp .eq 698, 748, 1443), (.iconst 0, 749, 0), (.ireturn, 750, 0)]
def iL_law_727 : List (Instr × Nat × Nat) := aL_law_727 ++ iL_law_750
def aL_law_694 : List (Instr × Nat × Nat) := [(.aload_n 1, 695, 0), (.aload_n 0, 696, 0), (.iload_n 3, 697, 0), (.iconst 1, 698, 0), (.iadd, 699, 0), (.iaload, 700, 0), (.aload_n 0, 701, 0), (.iload_n 3, 702, 0), (.iconst 2, 703, 0), (.iadd, 704, 0), (.iaload, 705, 0), (.invokevirtual 73, 708, 0), (.aload_n 2, 709, 0), (.aload_n 0, 710, 0), (.iload_n 3, 711, 0), (.iconst 1, 712, 0), (.iadd, 713, 0), (.iaload, 714, 0), (.aload_n 0, 715, 0), (.iload_n 3, 716, 0), (.iconst 2, 717, 0), (.iadd, 718, 0), (.iaload, 719, 0), (.invokevirtual 76, 722, 0), (.if_icmp .eq 721, 725, 1443), (.iconst 0, 726, 0), (.ireturn, 727, 0)]
def iL_law_694 : List (Instr × Nat × Nat) := aL_law_694 ++ iL_law_727
def aL_law_671 : List (Instr × Nat × Nat) := [(.aload_n 1, 672, 0), (.aload_n 0, 673, 0), (.iload_n 3, 674, 0), (.iconst 1, 675, 0), (.iadd, 676, 0), (.iaload, 677, 0), (.invokevirtual 69, 680, 0), (.aload_n 2, 681, 0), (.aload_n 0, 682, 0), (.iload_n 3, 683, 0), (.iconst 1, 684, 0), (.iadd, 685, 0), (.iaload, 686, 0), (.invokevirtual 72, 689, 0), (.if_icmp .eq 754, 692, 1443), (.iconst 0, 693, 0), (.ireturn, 694, 0)]
def iL_law_671 : List (Instr × Nat × Nat) := aL_law_671 ++ iL_law_694
def aL_law_638 : List (Instr × Nat × Nat) := [(.aload_n 1, 639, 0), (.aload_n 0, 640, 0), (.iload_n 3, 641, 0), (.iconst 1, 642, 0), (.iadd, 643, 0), (.iaload, 644, 0), (.aload_n 0, 645, 0), (.iload_n 3, 646, 0), (.iconst 2, 647, 0), (.iadd, 648, 0), (.iaload, 649, 0), (.invokevirtual 65, 652, 0), (.aload_n 2, 653, 0), (.aload_n 0, 654, 0), (.iload_n 3, 655, 0), (.iconst 1, 656, 0), (.iadd, 657, 0), (.iaload, 658, 0), (.aload_n 0, 659, 0), (.iload_n 3, 660, 0), (.iconst 2, 661, 0), (.iadd, 662, 0), (.iaload, 663, 0), (.invokevirtual 68, 666, 0), (.if_icmp .eq 777, 669, 1443), (.iconst 0, 670, 0), (.ireturn, 671, 0)]
def iL_law_638 : List (Instr × Nat × Nat) := aL_law_638 ++ iL_law_671
def aL_law_605 : List (Instr × Nat × Nat) := [(.aload_n 1, 606, 0), (.aload_n 0, 607, 0), (.iload_n 3, 608, 0), (.iconst 1, 609, 0), (.iadd, 610, 0), (.iaload, 611, 0), (.aload_n 0, 612, 0), (.iload_n 3, 613, 0), (.iconst 2, 614, 0), (.iadd, 615, 0), (.iaload, 616, 0), (.invokevirtual 61, 619, 0), (.aload_n 2, 620, 0), (.aload_n 0, 621, 0), (.iload_n 3, 622, 0), (.iconst 1, 623, 0), (.iadd, 624, 0), (.iaload, 625, 0), (.aload_n 0, 626, 0), (.iload_n 3, 627, 0), (.iconst 2, 628, 0), (.iadd, 629, 0), (.iaload, 630, 0), (.invokevirtual 64, 633, 0), (.if_icmp .eq 810, 636, 1443), (.iconst 0, 637, 0), (.ireturn, 638, 0)]
def iL_law_605 : List (Instr × Nat × Nat) := aL_law_605 ++ iL_law_638
def aL_law_572 : List (Instr × Nat × Nat) := [(.aload_n 1, 573, 0), (.aload_n 0, 574, 0), (.iload_n 3, 575, 0), (.iconst 1, 576, 0), (.iadd, 577, 0), (.iaload, 578, 0), (.aload_n 0, 579, 0), (.iload_n 3, 580, 0), (.iconst 2, 581, 0), (.iadd, 582, 0), (.iaload, 583, 0), (.invokevirtual 57, 586, 0), (.aload_n 2, 587, 0), (.aload_n 0, 588, 0), (.iload_n 3, 589, 0), (.iconst 1, 590, 0), (.iadd, 591, 0), (.iaload, 592, 0), (.aload_n 0, 593, 0), (.iload_n 3, 594, 0), (.iconst 2, 595, 0), (.iadd, 596, 0), (.iaload, 597, 0), (.invokevirtual 60, 600, 0), (.if_icmp .eq 843, 603, 1443), (.iconst 0, 604, 0), (.ireturn, 605, 0)]
def iL_law_572 : List (Instr × Nat × Nat) := aL_law_572 ++ iL_law_605
def aL_law_549 : List (Instr × Nat × Nat) := [(.aload_n 1, 550, 0), (.aload_n 0, 551, 0), (.iload_n 3, 552, 0), (.iconst 1, 553, 0), (.iadd, 554, 0), (.iaload, 555, 0), (.invokevirtual 53, 558, 0), (.aload_n 2, 559, 0), (.aload_n 0, 560, 0), (.iload_n 3, 561, 0), (.iconst 1, 562, 0), (.iadd, 563, 0), (.iaload, 564, 0), (.invokevirtual 56, 567, 0), (.if_icmp .eq 876, 570, 1443), (.iconst 0, 571, 0), (.ireturn, 572, 0)]
def iL_law_549 : List (Instr × Nat × Nat) := aL_law_549 ++ iL_law_572
def aL_law_526 : List (Instr × Nat × Nat) := [(.aload_n 1, 527, 0), (.aload_n 0, 528, 0), (.iload_n 3, 529, 0), (.iconst 1, 530, 0), (.iadd, 531, 0), (.iaload, 532, 0), (.invokevirtual 49, 535, 0), (.aload_n 2, 536, 0), (.aload_n 0, 537, 0), (.iload_n 3, 538, 0), (.iconst 1, 539, 0), (.iadd, 540, 0), (.iaload, 541, 0), (.invokevirtual 52, 544, 0), (.if_icmp .eq 899, 547, 1443), (.iconst 0, 548, 0), (.ireturn, 549, 0)]
def iL_law_526 : List (Instr × Nat × Nat) := aL_law_526 ++ iL_law_549
def aL_law_483 : List (Instr × Nat × Nat) := [(.aload_n 1, 484, 0), (.aload_n 0, 485, 0), (.iload_n 3, 486, 0), (.iconst 1, 487, 0), (.iadd, 488, 0), (.iaload, 489, 0), (.aload_n 0, 490, 0), (.iload_n 3, 491, 0), (.iconst 2, 492, 0), (.iadd, 493, 0), (.iaload, 494, 0), (.aload_n 0, 495, 0), (.iload_n 3, 496, 0), (.iconst 3, 497, 0), (.iadd, 498, 0), (.iaload, 499, 0), (.invokevirtual 45, 502, 0), (.aload_n 2, 503, 0), (.aload_n 0, 504, 0), (.iload_n 3, 505, 0), (.iconst 1, 506, 0), (.iadd, 507, 0), (.iaload, 508, 0), (.aload_n 0, 509, 0), (.iload_n 3, 510, 0), (.iconst 2, 511, 0), (.iadd, 512, 0), (.iaload, 513, 0), (.aload_n 0, 514, 0), (.iload_n 3, 515, 0), (.iconst 3, 516, 0), (.iadd, 517, 0), (.iaload, 518, 0), (.invokevirtual 48, 521, 0), (.if_icmp .eq 922, 524, 1443), (.iconst 0, 525, 0), (.ireturn, 526, 0)]
def iL_law_483 : List (Instr × Nat × Nat) := aL_law_483 ++ iL_law_526
def aL_law_450 : List (Instr × Nat × Nat) := [(.aload_n 1, 451, 0), (.aload_n 0, 452, 0), (.iload_n 3, 453, 0), (.iconst 1, 454, 0), (.iadd, 455, 0), (.iaload, 456, 0), (.aload_n 0, 457, 0), (.iload_n 3, 458, 0), (.iconst 2, 459, 0), (.iadd, 460, 0), (.iaload, 461, 0), (.invokevirtual 41, 464, 0), (.aload_n 2, 465, 0), (.aload_n 0, 466, 0), (.iload_n 3, 467, 0), (.iconst 1, 468, 0), (.iadd, 469, 0), (.iaload, 470, 0), (.aload_n 0, 471, 0), (.iload_n 3, 472, 0), (.iconst 2, 473, 0), (.iadd, 474, 0), (.iaload, 475, 0), (.invokevirtual 44, 478, 0), (.if_icmp .eq 965, 481, 1443), (.iconst 0, 482, 0), (.ireturn, 483, 0)]
def iL_law_450 : List (Instr × Nat × Nat) := aL_law_450 ++ iL_law_483
def aL_law_427 : List (Instr × Nat × Nat) := [(.aload_n 1, 428, 0), (.aload_n 0, 429, 0), (.iload_n 3, 430, 0), (.iconst 1, 431, 0), (.iadd, 432, 0), (.iaload, 433, 0), (.invokevirtual 37, 436, 0), (.aload_n 2, 437, 0), (.aload_n 0, 438, 0), (.iload_n 3, 439, 0), (.iconst 1, 440, 0), (.iadd, 441, 0), (.iaload, 442, 0), (.invokevirtual 40, 445, 0), (.if_icmp .eq 998, 448, 1443), (.iconst 0, 449, 0), (.ireturn, 450, 0)]
def iL_law_427 : List (Instr × Nat × Nat) := aL_law_427 ++ iL_law_450
def aL_law_364 : List (Instr × Nat × Nat) := [(.aload_n 1, 365, 0), (.aload_n 0, 366, 0), (.iload_n 3, 367, 0), (.iconst 1, 368, 0), (.iadd, 369, 0), (.iaload, 370, 0), (.aload_n 0, 371, 0), (.iload_n 3, 372, 0), (.iconst 2, 373, 0), (.iadd, 374, 0), (.iaload, 375, 0), (.aload_n 0, 376, 0), (.iload_n 3, 377, 0), (.iconst 3, 378, 0), (.iadd, 379, 0), (.iaload, 380, 0), (.aload_n 0, 381, 0), (.iload_n 3, 382, 0), (.iconst 4, 383, 0), (.iadd, 384, 0), (.iaload, 385, 0), (.aload_n 0, 386, 0), (.iload_n 3, 387, 0), (.iconst 5, 388, 0), (.iadd, 389, 0), (.iaload, 390, 0), (.invokevirtual 32, 393, 0), (.aload_n 2, 394, 0), (.aload_n 0, 395, 0), (.iload_n 3, 396, 0), (.iconst 1, 397, 0), (.iadd, 398, 0), (.iaload, 399, 0), (.aload_n 0, 400, 0), (.iload_n 3, 401, 0), (.iconst 2, 402, 0), (.iadd, 403, 0), (.iaload, 404, 0), (.aload_n 0, 405, 0), (.iload_n 3, 406, 0), (.iconst 3, 407, 0), (.iadd, 408, 0), (.iaload, 409, 0), (.aload_n 0, 410, 0), (.iload_n 3, 411, 0), (.iconst 4, 412, 0), (.iadd, 413, 0), (.iaload, 414, 0), (.aload_n 0, 415, 0), (.iload_n 3, 416, 0), (.iconst 5, 417, 0), (.iadd, 418, 0), (.iaload, 419, 0), (.invokevirtual 36, 422, 0), (.if_icmp .eq 1021, 425, 1443), (.iconst 0, 426, 0), (.ireturn, 427, 0)]
def iL_law_364 : List (Instr × Nat × Nat) := aL_law_364 ++ iL_law_427
def aL_law_341 : List (Instr × Nat × Nat) := [(.aload_n 1, 342, 0), (.aload_n 0, 343, 0), (.iload_n 3, 344, 0), (.iconst 1, 345, 0), (.iadd, 346, 0), (.iaload, 347, 0), (.invokevirtual 27, 350, 0), (.aload_n 2, 351, 0), (.aload_n 0, 352, 0), (.iload_n 3, 353, 0), (.iconst 1, 354, 0), (.iadd, 355, 0), (.iaload, 356, 0), (.invokevirtual 31, 359, 0), (.if_icmp .eq 1084, 362, 1443), (.iconst 0, 363, 0), (.ireturn, 364, 0)]
def iL_law_341 : List (Instr × Nat × Nat) := aL_law_341 ++ iL_law_364
def aL_law_308 : List (Instr × Nat × Nat) := [(.aload_n 1, 309, 0), (.aload_n 0, 310, 0), (.iload_n 3, 311, 0), (.iconst 1, 312, 0), (.iadd, 313, 0), (.iaload, 314, 0), (.aload_n 0, 315, 0), (.iload_n 3, 316, 0), (.iconst 2, 317, 0), (.iadd, 318, 0), (.iaload, 319, 0), (.invokevirtual 23, 322, 0), (.aload_n 2, 323, 0), (.aload_n 0, 324, 0), (.iload_n 3, 325, 0), (.iconst 1, 326, 0), (.iadd, 327, 0), (.iaload, 328, 0), (.aload_n 0, 329, 0), (.iload_n 3, 330, 0), (.iconst 2, 331, 0), (.iadd, 332, 0), (.iaload, 333, 0), (.invokevirtual 26, 336, 0), (.if_icmp .eq 1107, 339, 1443), (.iconst 0, 340, 0), (.ireturn, 341, 0)]
def iL_law_308 : List (Instr × Nat × Nat) := aL_law_308 ++ iL_law_341
def aL_law_265 : List (Instr × Nat × Nat) := [(.aload_n 1, 266, 0), (.aload_n 0, 267, 0), (.iload_n 3, 268, 0), (.iconst 1, 269, 0), (.iadd, 270, 0), (.iaload, 271, 0), (.aload_n 0, 272, 0), (.iload_n 3, 273, 0), (.iconst 2, 274, 0), (.iadd, 275, 0), (.iaload, 276, 0), (.aload_n 0, 277, 0), (.iload_n 3, 278, 0), (.iconst 3, 279, 0), (.iadd, 280, 0), (.iaload, 281, 0), (.invokevirtual 18, 284, 0), (.aload_n 2, 285, 0), (.aload_n 0, 286, 0), (.iload_n 3, 287, 0), (.iconst 1, 288, 0), (.iadd, 289, 0), (.iaload, 290, 0), (.aload_n 0, 291, 0), (.iload_n 3, 292, 0), (.iconst 2, 293, 0), (.iadd, 294, 0), (.iaload, 295, 0), (.aload_n 0, 296, 0), (.iload_n 3, 297, 0), (.iconst 3, 298, 0), (.iadd, 299, 0), (.iaload, 300, 0), (.invokevirtual 22, 303, 0), (.if_icmp .eq 1140, 306, 1443), (.iconst 0, 307, 0), (.ireturn, 308, 0)]
def iL_law_265 : List (Instr × Nat × Nat) := aL_law_265 ++ iL_law_308
def aL_law_232 : List (Instr × Nat × Nat) := [(.aload_n 1, 233, 0), (.aload_n 0, 234, 0), (.iload_n 3, 235, 0), (.iconst 1, 236, 0), (.iadd, 237, 0), (.iaload, 238, 0), (.aload_n 0, 239, 0), (.iload_n 3, 240, 0), (.iconst 2, 241, 0), (.iadd, 242, 0), (.iaload, 243, 0), (.invokevirtual 13, 246, 0), (.aload_n 2, 247, 0), (.aload_n 0, 248, 0), (.iload_n 3, 249, 0), (.iconst 1, 250, 0), (.iadd, 251, 0), (.iaload, 252, 0), (.aload_n 0, 253, 0), (.iload_n 3, 254, 0), (.iconst 2, 255, 0), (.iadd, 256, 0), (.iaload, 257, 0), (.invokevirtual 17, 260, 0), (.if_icmp .eq 1183, 263, 1443), (.iconst 0, 264, 0), (.ireturn, 265, 0)]
def iL_law_232 : List (Instr × Nat × Nat) := aL_law_232 ++ iL_law_265
def aL_law_18 : List (Instr × Nat × Nat) := [(.iload_n 3, 19, 0), (.aload_n 0, 20, 0), (.arraylength, 21, 0), (.bipush 6, 23, 0), (.isub, 24, 0), (.if_icmp .gt 1425, 27, 1449), (.aload_n 0, 28, 0), (.iload_n 3, 29, 0), (.iaload, 30, 0), (.bipush 63, 32, 0), (.iand, 33, 0), (.tableswitch 1410 0 45 #[199, 232, 275, 308, 331, 394, 417, 450, 493, 516, 539, 572, 605, 638, 661, 694, 717, 740, 763, 786, 819, 842, 865, 888, 921, 944, 967, 990, 1023, 1046, 1059, 1072, 1105, 1118, 1151, 1174, 1207, 1230, 1263, 1296, 1309, 1323, 1337, 1360, 1373, 1396], 232, 0)]
def iL_law_18 : List (Instr × Nat × Nat) := aL_law_18 ++ iL_law_232
def aL_law_0 : List (Instr × Nat × Nat) := [(.new 7, 3, 0), (.dup, 4, 0), (.invokespecial 9, 7, 0), (.astore_n 1, 8, 0), (.new 10, 11, 0), (.dup, 12, 0), (.invokespecial 12, 15, 0), (.astore_n 2, 16, 0), (.iconst 0, 17, 0), (.istore_n 3, 18, 0)]
def iL_law_0 : List (Instr × Nat × Nat) := aL_law_0 ++ iL_law_18
theorem kL_law_1449 : sr_is code 1449 iL_law_1449 = true := by decide +kernel
theorem lL_law_1449 {d : Nat} {L : sr_L} {st : List Value} {b : Nat × Nat} {h : sr_H} {P : Option Value → sr_H → Prop} (w : sr_wp mL_law d iL_law_1449 1449 L st b h P) : sr_Go mL_law d 1449 L st b h P := sr_wp_go kL_law_1449 w
theorem kcL_law_1443 : sr_is code 1443 aL_law_1443 = true := by decide +kernel
theorem kL_law_1443 : sr_is code 1443 iL_law_1443 = true := sr_is_app kcL_law_1443 kL_law_1449
theorem lL_law_1443 {d : Nat} {L : sr_L} {st : List Value} {b : Nat × Nat} {h : sr_H} {P : Option Value → sr_H → Prop} (w : sr_wp mL_law d iL_law_1443 1443 L st b h P) : sr_Go mL_law d 1443 L st b h P := sr_wp_go kL_law_1443 w
theorem kcL_law_1429 : sr_is code 1429 aL_law_1429 = true := by decide +kernel
theorem kL_law_1429 : sr_is code 1429 iL_law_1429 = true := sr_is_app kcL_law_1429 kL_law_1443
theorem lL_law_1429 {d : Nat} {L : sr_L} {st : List Value} {b : Nat × Nat} {h : sr_H} {P : Option Value → sr_H → Prop} (w : sr_wp mL_law d iL_law_1429 1429 L st b h P) : sr_Go mL_law d 1429 L st b h P := sr_wp_go kL_law_1429 w
theorem kcL_law_1406 : sr_is code 1406 aL_law_1406 = true := by decide +kernel
theorem kL_law_1406 : sr_is code 1406 iL_law_1406 = true := sr_is_app kcL_law_1406 kL_law_1429
theorem lL_law_1406 {d : Nat} {L : sr_L} {st : List Value} {b : Nat × Nat} {h : sr_H} {P : Option Value → sr_H → Prop} (w : sr_wp mL_law d iL_law_1406 1406 L st b h P) : sr_Go mL_law d 1406 L st b h P := sr_wp_go kL_law_1406 w
theorem kcL_law_1393 : sr_is code 1393 aL_law_1393 = true := by decide +kernel
theorem kL_law_1393 : sr_is code 1393 iL_law_1393 = true := sr_is_app kcL_law_1393 kL_law_1406
theorem lL_law_1393 {d : Nat} {L : sr_L} {st : List Value} {b : Nat × Nat} {h : sr_H} {P : Option Value → sr_H → Prop} (w : sr_wp mL_law d iL_law_1393 1393 L st b h P) : sr_Go mL_law d 1393 L st b h P := sr_wp_go kL_law_1393 w
theorem kcL_law_1370 : sr_is code 1370 aL_law_1370 = true := by decide +kernel
theorem kL_law_1370 : sr_is code 1370 iL_law_1370 = true := sr_is_app kcL_law_1370 kL_law_1393
theorem lL_law_1370 {d : Nat} {L : sr_L} {st : List Value} {b : Nat × Nat} {h : sr_H} {P : Option Value → sr_H → Prop} (w : sr_wp mL_law d iL_law_1370 1370 L st b h P) : sr_Go mL_law d 1370 L st b h P := sr_wp_go kL_law_1370 w
theorem kcL_law_1356 : sr_is code 1356 aL_law_1356 = true := by decide +kernel
theorem kL_law_1356 : sr_is code 1356 iL_law_1356 = true := sr_is_app kcL_law_1356 kL_law_1370
theorem lL_law_1356 {d : Nat} {L : sr_L} {st : List Value} {b : Nat × Nat} {h : sr_H} {P : Option Value → sr_H → Prop} (w : sr_wp mL_law d iL_law_1356 1356 L st b h P) : sr_Go mL_law d 1356 L st b h P := sr_wp_go kL_law_1356 w
theorem kcL_law_1342 : sr_is code 1342 aL_law_1342 = true := by decide +kernel
theorem kL_law_1342 : sr_is code 1342 iL_law_1342 = true := sr_is_app kcL_law_1342 kL_law_1356
theorem lL_law_1342 {d : Nat} {L : sr_L} {st : List Value} {b : Nat × Nat} {h : sr_H} {P : Option Value → sr_H → Prop} (w : sr_wp mL_law d iL_law_1342 1342 L st b h P) : sr_Go mL_law d 1342 L st b h P := sr_wp_go kL_law_1342 w
theorem kcL_law_1329 : sr_is code 1329 aL_law_1329 = true := by decide +kernel
theorem kL_law_1329 : sr_is code 1329 iL_law_1329 = true := sr_is_app kcL_law_1329 kL_law_1342
theorem lL_law_1329 {d : Nat} {L : sr_L} {st : List Value} {b : Nat × Nat} {h : sr_H} {P : Option Value → sr_H → Prop} (w : sr_wp mL_law d iL_law_1329 1329 L st b h P) : sr_Go mL_law d 1329 L st b h P := sr_wp_go kL_law_1329 w
theorem kcL_law_1296 : sr_is code 1296 aL_law_1296 = true := by decide +kernel
theorem kL_law_1296 : sr_is code 1296 iL_law_1296 = true := sr_is_app kcL_law_1296 kL_law_1329
theorem lL_law_1296 {d : Nat} {L : sr_L} {st : List Value} {b : Nat × Nat} {h : sr_H} {P : Option Value → sr_H → Prop} (w : sr_wp mL_law d iL_law_1296 1296 L st b h P) : sr_Go mL_law d 1296 L st b h P := sr_wp_go kL_law_1296 w
theorem kcL_law_1263 : sr_is code 1263 aL_law_1263 = true := by decide +kernel
theorem kL_law_1263 : sr_is code 1263 iL_law_1263 = true := sr_is_app kcL_law_1263 kL_law_1296
theorem lL_law_1263 {d : Nat} {L : sr_L} {st : List Value} {b : Nat × Nat} {h : sr_H} {P : Option Value → sr_H → Prop} (w : sr_wp mL_law d iL_law_1263 1263 L st b h P) : sr_Go mL_law d 1263 L st b h P := sr_wp_go kL_law_1263 w
theorem kcL_law_1240 : sr_is code 1240 aL_law_1240 = true := by decide +kernel
theorem kL_law_1240 : sr_is code 1240 iL_law_1240 = true := sr_is_app kcL_law_1240 kL_law_1263
theorem lL_law_1240 {d : Nat} {L : sr_L} {st : List Value} {b : Nat × Nat} {h : sr_H} {P : Option Value → sr_H → Prop} (w : sr_wp mL_law d iL_law_1240 1240 L st b h P) : sr_Go mL_law d 1240 L st b h P := sr_wp_go kL_law_1240 w
theorem kcL_law_1207 : sr_is code 1207 aL_law_1207 = true := by decide +kernel
theorem kL_law_1207 : sr_is code 1207 iL_law_1207 = true := sr_is_app kcL_law_1207 kL_law_1240
theorem lL_law_1207 {d : Nat} {L : sr_L} {st : List Value} {b : Nat × Nat} {h : sr_H} {P : Option Value → sr_H → Prop} (w : sr_wp mL_law d iL_law_1207 1207 L st b h P) : sr_Go mL_law d 1207 L st b h P := sr_wp_go kL_law_1207 w
theorem kcL_law_1184 : sr_is code 1184 aL_law_1184 = true := by decide +kernel
theorem kL_law_1184 : sr_is code 1184 iL_law_1184 = true := sr_is_app kcL_law_1184 kL_law_1207
theorem lL_law_1184 {d : Nat} {L : sr_L} {st : List Value} {b : Nat × Nat} {h : sr_H} {P : Option Value → sr_H → Prop} (w : sr_wp mL_law d iL_law_1184 1184 L st b h P) : sr_Go mL_law d 1184 L st b h P := sr_wp_go kL_law_1184 w
theorem kcL_law_1151 : sr_is code 1151 aL_law_1151 = true := by decide +kernel
theorem kL_law_1151 : sr_is code 1151 iL_law_1151 = true := sr_is_app kcL_law_1151 kL_law_1184
theorem lL_law_1151 {d : Nat} {L : sr_L} {st : List Value} {b : Nat × Nat} {h : sr_H} {P : Option Value → sr_H → Prop} (w : sr_wp mL_law d iL_law_1151 1151 L st b h P) : sr_Go mL_law d 1151 L st b h P := sr_wp_go kL_law_1151 w
theorem kcL_law_1138 : sr_is code 1138 aL_law_1138 = true := by decide +kernel
theorem kL_law_1138 : sr_is code 1138 iL_law_1138 = true := sr_is_app kcL_law_1138 kL_law_1151
theorem lL_law_1138 {d : Nat} {L : sr_L} {st : List Value} {b : Nat × Nat} {h : sr_H} {P : Option Value → sr_H → Prop} (w : sr_wp mL_law d iL_law_1138 1138 L st b h P) : sr_Go mL_law d 1138 L st b h P := sr_wp_go kL_law_1138 w
theorem kcL_law_1105 : sr_is code 1105 aL_law_1105 = true := by decide +kernel
theorem kL_law_1105 : sr_is code 1105 iL_law_1105 = true := sr_is_app kcL_law_1105 kL_law_1138
theorem lL_law_1105 {d : Nat} {L : sr_L} {st : List Value} {b : Nat × Nat} {h : sr_H} {P : Option Value → sr_H → Prop} (w : sr_wp mL_law d iL_law_1105 1105 L st b h P) : sr_Go mL_law d 1105 L st b h P := sr_wp_go kL_law_1105 w
theorem kcL_law_1092 : sr_is code 1092 aL_law_1092 = true := by decide +kernel
theorem kL_law_1092 : sr_is code 1092 iL_law_1092 = true := sr_is_app kcL_law_1092 kL_law_1105
theorem lL_law_1092 {d : Nat} {L : sr_L} {st : List Value} {b : Nat × Nat} {h : sr_H} {P : Option Value → sr_H → Prop} (w : sr_wp mL_law d iL_law_1092 1092 L st b h P) : sr_Go mL_law d 1092 L st b h P := sr_wp_go kL_law_1092 w
theorem kcL_law_1079 : sr_is code 1079 aL_law_1079 = true := by decide +kernel
theorem kL_law_1079 : sr_is code 1079 iL_law_1079 = true := sr_is_app kcL_law_1079 kL_law_1092
theorem lL_law_1079 {d : Nat} {L : sr_L} {st : List Value} {b : Nat × Nat} {h : sr_H} {P : Option Value → sr_H → Prop} (w : sr_wp mL_law d iL_law_1079 1079 L st b h P) : sr_Go mL_law d 1079 L st b h P := sr_wp_go kL_law_1079 w
theorem kcL_law_1056 : sr_is code 1056 aL_law_1056 = true := by decide +kernel
theorem kL_law_1056 : sr_is code 1056 iL_law_1056 = true := sr_is_app kcL_law_1056 kL_law_1079
theorem lL_law_1056 {d : Nat} {L : sr_L} {st : List Value} {b : Nat × Nat} {h : sr_H} {P : Option Value → sr_H → Prop} (w : sr_wp mL_law d iL_law_1056 1056 L st b h P) : sr_Go mL_law d 1056 L st b h P := sr_wp_go kL_law_1056 w
theorem kcL_law_1023 : sr_is code 1023 aL_law_1023 = true := by decide +kernel
theorem kL_law_1023 : sr_is code 1023 iL_law_1023 = true := sr_is_app kcL_law_1023 kL_law_1056
theorem lL_law_1023 {d : Nat} {L : sr_L} {st : List Value} {b : Nat × Nat} {h : sr_H} {P : Option Value → sr_H → Prop} (w : sr_wp mL_law d iL_law_1023 1023 L st b h P) : sr_Go mL_law d 1023 L st b h P := sr_wp_go kL_law_1023 w
theorem kcL_law_1000 : sr_is code 1000 aL_law_1000 = true := by decide +kernel
theorem kL_law_1000 : sr_is code 1000 iL_law_1000 = true := sr_is_app kcL_law_1000 kL_law_1023
theorem lL_law_1000 {d : Nat} {L : sr_L} {st : List Value} {b : Nat × Nat} {h : sr_H} {P : Option Value → sr_H → Prop} (w : sr_wp mL_law d iL_law_1000 1000 L st b h P) : sr_Go mL_law d 1000 L st b h P := sr_wp_go kL_law_1000 w
theorem kcL_law_977 : sr_is code 977 aL_law_977 = true := by decide +kernel
theorem kL_law_977 : sr_is code 977 iL_law_977 = true := sr_is_app kcL_law_977 kL_law_1000
theorem lL_law_977 {d : Nat} {L : sr_L} {st : List Value} {b : Nat × Nat} {h : sr_H} {P : Option Value → sr_H → Prop} (w : sr_wp mL_law d iL_law_977 977 L st b h P) : sr_Go mL_law d 977 L st b h P := sr_wp_go kL_law_977 w
theorem kcL_law_954 : sr_is code 954 aL_law_954 = true := by decide +kernel
theorem kL_law_954 : sr_is code 954 iL_law_954 = true := sr_is_app kcL_law_954 kL_law_977
theorem lL_law_954 {d : Nat} {L : sr_L} {st : List Value} {b : Nat × Nat} {h : sr_H} {P : Option Value → sr_H → Prop} (w : sr_wp mL_law d iL_law_954 954 L st b h P) : sr_Go mL_law d 954 L st b h P := sr_wp_go kL_law_954 w
theorem kcL_law_921 : sr_is code 921 aL_law_921 = true := by decide +kernel
theorem kL_law_921 : sr_is code 921 iL_law_921 = true := sr_is_app kcL_law_921 kL_law_954
theorem lL_law_921 {d : Nat} {L : sr_L} {st : List Value} {b : Nat × Nat} {h : sr_H} {P : Option Value → sr_H → Prop} (w : sr_wp mL_law d iL_law_921 921 L st b h P) : sr_Go mL_law d 921 L st b h P := sr_wp_go kL_law_921 w
theorem kcL_law_898 : sr_is code 898 aL_law_898 = true := by decide +kernel
theorem kL_law_898 : sr_is code 898 iL_law_898 = true := sr_is_app kcL_law_898 kL_law_921
theorem lL_law_898 {d : Nat} {L : sr_L} {st : List Value} {b : Nat × Nat} {h : sr_H} {P : Option Value → sr_H → Prop} (w : sr_wp mL_law d iL_law_898 898 L st b h P) : sr_Go mL_law d 898 L st b h P := sr_wp_go kL_law_898 w
theorem kcL_law_875 : sr_is code 875 aL_law_875 = true := by decide +kernel
theorem kL_law_875 : sr_is code 875 iL_law_875 = true := sr_is_app kcL_law_875 kL_law_898
theorem lL_law_875 {d : Nat} {L : sr_L} {st : List Value} {b : Nat × Nat} {h : sr_H} {P : Option Value → sr_H → Prop} (w : sr_wp mL_law d iL_law_875 875 L st b h P) : sr_Go mL_law d 875 L st b h P := sr_wp_go kL_law_875 w
theorem kcL_law_852 : sr_is code 852 aL_law_852 = true := by decide +kernel
theorem kL_law_852 : sr_is code 852 iL_law_852 = true := sr_is_app kcL_law_852 kL_law_875
theorem lL_law_852 {d : Nat} {L : sr_L} {st : List Value} {b : Nat × Nat} {h : sr_H} {P : Option Value → sr_H → Prop} (w : sr_wp mL_law d iL_law_852 852 L st b h P) : sr_Go mL_law d 852 L st b h P := sr_wp_go kL_law_852 w
theorem kcL_law_819 : sr_is code 819 aL_law_819 = true := by decide +kernel
theorem kL_law_819 : sr_is code 819 iL_law_819 = true := sr_is_app kcL_law_819 kL_law_852
theorem lL_law_819 {d : Nat} {L : sr_L} {st : List Value} {b : Nat × Nat} {h : sr_H} {P : Option Value → sr_H → Prop} (w : sr_wp mL_law d iL_law_819 819 L st b h P) : sr_Go mL_law d 819 L st b h P := sr_wp_go kL_law_819 w
theorem kcL_law_796 : sr_is code 796 aL_law_796 = true := by decide +kernel
theorem kL_law_796 : sr_is code 796 iL_law_796 = true := sr_is_app kcL_law_796 kL_law_819
theorem lL_law_796 {d : Nat} {L : sr_L} {st : List Value} {b : Nat × Nat} {h : sr_H} {P : Option Value → sr_H → Prop} (w : sr_wp mL_law d iL_law_796 796 L st b h P) : sr_Go mL_law d 796 L st b h P := sr_wp_go kL_law_796 w
theorem kcL_law_773 : sr_is code 773 aL_law_773 = true := by decide +kernel
theorem kL_law_773 : sr_is code 773 iL_law_773 = true := sr_is_app kcL_law_773 kL_law_796
theorem lL_law_773 {d : Nat} {L : sr_L} {st : List Value} {b : Nat × Nat} {h : sr_H} {P : Option Value → sr_H → Prop} (w : sr_wp mL_law d iL_law_773 773 L st b h P) : sr_Go mL_law d 773 L st b h P := sr_wp_go kL_law_773 w
theorem kcL_law_750 : sr_is code 750 aL_law_750 = true := by decide +kernel
theorem kL_law_750 : sr_is code 750 iL_law_750 = true := sr_is_app kcL_law_750 kL_law_773
theorem lL_law_750 {d : Nat} {L : sr_L} {st : List Value} {b : Nat × Nat} {h : sr_H} {P : Option Value → sr_H → Prop} (w : sr_wp mL_law d iL_law_750 750 L st b h P) : sr_Go mL_law d 750 L st b h P := sr_wp_go kL_law_750 w
theorem kcL_law_727 : sr_is code 727 aL_law_727 = true := by decide +kernel
theorem kL_law_727 : sr_is code 727 iL_law_727 = true := sr_is_app kcL_law_727 kL_law_750
theorem lL_law_727 {d : Nat} {L : sr_L} {st : List Value} {b : Nat × Nat} {h : sr_H} {P : Option Value → sr_H → Prop} (w : sr_wp mL_law d iL_law_727 727 L st b h P) : sr_Go mL_law d 727 L st b h P := sr_wp_go kL_law_727 w
theorem kcL_law_694 : sr_is code 694 aL_law_694 = true := by decide +kernel
theorem kL_law_694 : sr_is code 694 iL_law_694 = true := sr_is_app kcL_law_694 kL_law_727
theorem lL_law_694 {d : Nat} {L : sr_L} {st : List Value} {b : Nat × Nat} {h : sr_H} {P : Option Value → sr_H → Prop} (w : sr_wp mL_law d iL_law_694 694 L st b h P) : sr_Go mL_law d 694 L st b h P := sr_wp_go kL_law_694 w
theorem kcL_law_671 : sr_is code 671 aL_law_671 = true := by decide +kernel
theorem kL_law_671 : sr_is code 671 iL_law_671 = true := sr_is_app kcL_law_671 kL_law_694
theorem lL_law_671 {d : Nat} {L : sr_L} {st : List Value} {b : Nat × Nat} {h : sr_H} {P : Option Value → sr_H → Prop} (w : sr_wp mL_law d iL_law_671 671 L st b h P) : sr_Go mL_law d 671 L st b h P := sr_wp_go kL_law_671 w
theorem kcL_law_638 : sr_is code 638 aL_law_638 = true := by decide +kernel
theorem kL_law_638 : sr_is code 638 iL_law_638 = true := sr_is_app kcL_law_638 kL_law_671
theorem lL_law_638 {d : Nat} {L : sr_L} {st : List Value} {b : Nat × Nat} {h : sr_H} {P : Option Value → sr_H → Prop} (w : sr_wp mL_law d iL_law_638 638 L st b h P) : sr_Go mL_law d 638 L st b h P := sr_wp_go kL_law_638 w
theorem kcL_law_605 : sr_is code 605 aL_law_605 = true := by decide +kernel
theorem kL_law_605 : sr_is code 605 iL_law_605 = true := sr_is_app kcL_law_605 kL_law_638
theorem lL_law_605 {d : Nat} {L : sr_L} {st : List Value} {b : Nat × Nat} {h : sr_H} {P : Option Value → sr_H → Prop} (w : sr_wp mL_law d iL_law_605 605 L st b h P) : sr_Go mL_law d 605 L st b h P := sr_wp_go kL_law_605 w
theorem kcL_law_572 : sr_is code 572 aL_law_572 = true := by decide +kernel
theorem kL_law_572 : sr_is code 572 iL_law_572 = true := sr_is_app kcL_law_572 kL_law_605
theorem lL_law_572 {d : Nat} {L : sr_L} {st : List Value} {b : Nat × Nat} {h : sr_H} {P : Option Value → sr_H → Prop} (w : sr_wp mL_law d iL_law_572 572 L st b h P) : sr_Go mL_law d 572 L st b h P := sr_wp_go kL_law_572 w
theorem kcL_law_549 : sr_is code 549 aL_law_549 = true := by decide +kernel
theorem kL_law_549 : sr_is code 549 iL_law_549 = true := sr_is_app kcL_law_549 kL_law_572
theorem lL_law_549 {d : Nat} {L : sr_L} {st : List Value} {b : Nat × Nat} {h : sr_H} {P : Option Value → sr_H → Prop} (w : sr_wp mL_law d iL_law_549 549 L st b h P) : sr_Go mL_law d 549 L st b h P := sr_wp_go kL_law_549 w
theorem kcL_law_526 : sr_is code 526 aL_law_526 = true := by decide +kernel
theorem kL_law_526 : sr_is code 526 iL_law_526 = true := sr_is_app kcL_law_526 kL_law_549
theorem lL_law_526 {d : Nat} {L : sr_L} {st : List Value} {b : Nat × Nat} {h : sr_H} {P : Option Value → sr_H → Prop} (w : sr_wp mL_law d iL_law_526 526 L st b h P) : sr_Go mL_law d 526 L st b h P := sr_wp_go kL_law_526 w
theorem kcL_law_483 : sr_is code 483 aL_law_483 = true := by decide +kernel
theorem kL_law_483 : sr_is code 483 iL_law_483 = true := sr_is_app kcL_law_483 kL_law_526
theorem lL_law_483 {d : Nat} {L : sr_L} {st : List Value} {b : Nat × Nat} {h : sr_H} {P : Option Value → sr_H → Prop} (w : sr_wp mL_law d iL_law_483 483 L st b h P) : sr_Go mL_law d 483 L st b h P := sr_wp_go kL_law_483 w
theorem kcL_law_450 : sr_is code 450 aL_law_450 = true := by decide +kernel
theorem kL_law_450 : sr_is code 450 iL_law_450 = true := sr_is_app kcL_law_450 kL_law_483
theorem lL_law_450 {d : Nat} {L : sr_L} {st : List Value} {b : Nat × Nat} {h : sr_H} {P : Option Value → sr_H → Prop} (w : sr_wp mL_law d iL_law_450 450 L st b h P) : sr_Go mL_law d 450 L st b h P := sr_wp_go kL_law_450 w
theorem kcL_law_427 : sr_is code 427 aL_law_427 = true := by decide +kernel
theorem kL_law_427 : sr_is code 427 iL_law_427 = true := sr_is_app kcL_law_427 kL_law_450
theorem lL_law_427 {d : Nat} {L : sr_L} {st : List Value} {b : Nat × Nat} {h : sr_H} {P : Option Value → sr_H → Prop} (w : sr_wp mL_law d iL_law_427 427 L st b h P) : sr_Go mL_law d 427 L st b h P := sr_wp_go kL_law_427 w
theorem kcL_law_364 : sr_is code 364 aL_law_364 = true := by decide +kernel
theorem kL_law_364 : sr_is code 364 iL_law_364 = true := sr_is_app kcL_law_364 kL_law_427
theorem lL_law_364 {d : Nat} {L : sr_L} {st : List Value} {b : Nat × Nat} {h : sr_H} {P : Option Value → sr_H → Prop} (w : sr_wp mL_law d iL_law_364 364 L st b h P) : sr_Go mL_law d 364 L st b h P := sr_wp_go kL_law_364 w
theorem kcL_law_341 : sr_is code 341 aL_law_341 = true := by decide +kernel
theorem kL_law_341 : sr_is code 341 iL_law_341 = true := sr_is_app kcL_law_341 kL_law_364
theorem lL_law_341 {d : Nat} {L : sr_L} {st : List Value} {b : Nat × Nat} {h : sr_H} {P : Option Value → sr_H → Prop} (w : sr_wp mL_law d iL_law_341 341 L st b h P) : sr_Go mL_law d 341 L st b h P := sr_wp_go kL_law_341 w
theorem kcL_law_308 : sr_is code 308 aL_law_308 = true := by decide +kernel
theorem kL_law_308 : sr_is code 308 iL_law_308 = true := sr_is_app kcL_law_308 kL_law_341
theorem lL_law_308 {d : Nat} {L : sr_L} {st : List Value} {b : Nat × Nat} {h : sr_H} {P : Option Value → sr_H → Prop} (w : sr_wp mL_law d iL_law_308 308 L st b h P) : sr_Go mL_law d 308 L st b h P := sr_wp_go kL_law_308 w
theorem kcL_law_265 : sr_is code 265 aL_law_265 = true := by decide +kernel
theorem kL_law_265 : sr_is code 265 iL_law_265 = true := sr_is_app kcL_law_265 kL_law_308
theorem lL_law_265 {d : Nat} {L : sr_L} {st : List Value} {b : Nat × Nat} {h : sr_H} {P : Option Value → sr_H → Prop} (w : sr_wp mL_law d iL_law_265 265 L st b h P) : sr_Go mL_law d 265 L st b h P := sr_wp_go kL_law_265 w
theorem kcL_law_232 : sr_is code 232 aL_law_232 = true := by decide +kernel
theorem kL_law_232 : sr_is code 232 iL_law_232 = true := sr_is_app kcL_law_232 kL_law_265
theorem lL_law_232 {d : Nat} {L : sr_L} {st : List Value} {b : Nat × Nat} {h : sr_H} {P : Option Value → sr_H → Prop} (w : sr_wp mL_law d iL_law_232 232 L st b h P) : sr_Go mL_law d 232 L st b h P := sr_wp_go kL_law_232 w
theorem kcL_law_18 : sr_is code 18 aL_law_18 = true := by decide +kernel
theorem kL_law_18 : sr_is code 18 iL_law_18 = true := sr_is_app kcL_law_18 kL_law_232
theorem lL_law_18 {d : Nat} {L : sr_L} {st : List Value} {b : Nat × Nat} {h : sr_H} {P : Option Value → sr_H → Prop} (w : sr_wp mL_law d iL_law_18 18 L st b h P) : sr_Go mL_law d 18 L st b h P := sr_wp_go kL_law_18 w
theorem kcL_law_0 : sr_is code 0 aL_law_0 = true := by decide +kernel
theorem kL_law_0 : sr_is code 0 iL_law_0 = true := sr_is_app kcL_law_0 kL_law_18
theorem lL_law_0 {d : Nat} {L : sr_L} {st : List Value} {b : Nat × Nat} {h : sr_H} {P : Option Value → sr_H → Prop} (w : sr_wp mL_law d iL_law_0 0 L st b h P) : sr_Go mL_law d 0 L st b h P := sr_wp_go kL_law_0 w
