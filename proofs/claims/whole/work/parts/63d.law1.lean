/-! THE LAW'S CASES: presentLeg, flockX, flockY, nextGate, gatesPassedTo, isOffLine, lossOfStep, runs, isComplete (printed by wip/whole/law1.py) -/
def tc_presentLeg : aT := [(1109, .aload_n 1, 1110, 0, 0, 0, []), (1110, .aload_n 3, 1111, 0, 0, 0, []), (1111, .invokestatic 233, 1114, 2, 1, 251, []), (1114, .istore 6, 1116, 0, 0, 0, []), (1116, .aload_n 2, 1117, 0, 0, 0, []), (1117, .invokevirtual 235, 1120, 1, 0, 187, []), (1120, .istore 7, 1122, 0, 0, 0, []), (1122, .aload_n 2, 1123, 0, 0, 0, []), (1123, .invokevirtual 168, 1126, 1, 0, 133, []), (1126, .iload 6, 1128, 0, 0, 0, []), (1128, .if_icmp .eq 5, 1131, 1133, 0, 0, []), (1131, .iconst 0, 1132, 0, 0, 0, []), (1132, .ireturn, 1133, 0, 0, 0, []), (1133, .iload 6, 1135, 0, 0, 0, []), (1135, .ifCond .ne 15, 1138, 1150, 0, 0, []), (1138, .aload_n 3, 1139, 0, 0, 0, []), (1139, .iconst 0, 1140, 0, 0, 0, []), (1140, .laload, 1141, 0, 0, 0, []), (1141, .iload 7, 1143, 0, 0, 0, []), (1143, .i2l, 1144, 0, 0, 0, []), (1144, .lcmp, 1145, 0, 0, 0, []), (1145, .ifCond .eq 5, 1148, 1150, 0, 0, []), (1148, .iconst 0, 1149, 0, 0, 0, []), (1149, .ireturn, 1150, 0, 0, 0, []), (1150, .goto 1709, 1153, 2859, 0, 0, [])]
set_option maxRecDepth 100000 in
theorem kc_presentLeg : tc_presentLeg.all (fun q => aOk 281 8 (aMt 281).2.1 q.1 q.2) = true := by decide +kernel
def tc_flockX : aT := [(1153, .aload_n 1, 1154, 0, 0, 0, []), (1154, .aload_n 3, 1155, 0, 0, 0, []), (1155, .invokestatic 236, 1158, 2, 1, 252, []), (1158, .istore 6, 1160, 0, 0, 0, []), (1160, .aload_n 2, 1161, 0, 0, 0, []), (1161, .invokevirtual 238, 1164, 1, 0, 188, []), (1164, .istore 7, 1166, 0, 0, 0, []), (1166, .aload_n 2, 1167, 0, 0, 0, []), (1167, .invokevirtual 168, 1170, 1, 0, 133, []), (1170, .iload 6, 1172, 0, 0, 0, []), (1172, .if_icmp .eq 5, 1175, 1177, 0, 0, []), (1175, .iconst 0, 1176, 0, 0, 0, []), (1176, .ireturn, 1177, 0, 0, 0, []), (1177, .iload 6, 1179, 0, 0, 0, []), (1179, .ifCond .ne 15, 1182, 1194, 0, 0, []), (1182, .aload_n 3, 1183, 0, 0, 0, []), (1183, .iconst 0, 1184, 0, 0, 0, []), (1184, .laload, 1185, 0, 0, 0, []), (1185, .iload 7, 1187, 0, 0, 0, []), (1187, .i2l, 1188, 0, 0, 0, []), (1188, .lcmp, 1189, 0, 0, 0, []), (1189, .ifCond .eq 5, 1192, 1194, 0, 0, []), (1192, .iconst 0, 1193, 0, 0, 0, []), (1193, .ireturn, 1194, 0, 0, 0, []), (1194, .goto 1665, 1197, 2859, 0, 0, [])]
set_option maxRecDepth 100000 in
theorem kc_flockX : tc_flockX.all (fun q => aOk 281 8 (aMt 281).2.1 q.1 q.2) = true := by decide +kernel
def tc_flockY : aT := [(1197, .aload_n 1, 1198, 0, 0, 0, []), (1198, .aload_n 3, 1199, 0, 0, 0, []), (1199, .invokestatic 239, 1202, 2, 1, 253, []), (1202, .istore 6, 1204, 0, 0, 0, []), (1204, .aload_n 2, 1205, 0, 0, 0, []), (1205, .invokevirtual 241, 1208, 1, 0, 189, []), (1208, .istore 7, 1210, 0, 0, 0, []), (1210, .aload_n 2, 1211, 0, 0, 0, []), (1211, .invokevirtual 168, 1214, 1, 0, 133, []), (1214, .iload 6, 1216, 0, 0, 0, []), (1216, .if_icmp .eq 5, 1219, 1221, 0, 0, []), (1219, .iconst 0, 1220, 0, 0, 0, []), (1220, .ireturn, 1221, 0, 0, 0, []), (1221, .iload 6, 1223, 0, 0, 0, []), (1223, .ifCond .ne 15, 1226, 1238, 0, 0, []), (1226, .aload_n 3, 1227, 0, 0, 0, []), (1227, .iconst 0, 1228, 0, 0, 0, []), (1228, .laload, 1229, 0, 0, 0, []), (1229, .iload 7, 1231, 0, 0, 0, []), (1231, .i2l, 1232, 0, 0, 0, []), (1232, .lcmp, 1233, 0, 0, 0, []), (1233, .ifCond .eq 5, 1236, 1238, 0, 0, []), (1236, .iconst 0, 1237, 0, 0, 0, []), (1237, .ireturn, 1238, 0, 0, 0, []), (1238, .goto 1621, 1241, 2859, 0, 0, [])]
set_option maxRecDepth 100000 in
theorem kc_flockY : tc_flockY.all (fun q => aOk 281 8 (aMt 281).2.1 q.1 q.2) = true := by decide +kernel
def tc_nextGate : aT := [(1241, .aload_n 1, 1242, 0, 0, 0, []), (1242, .aload_n 3, 1243, 0, 0, 0, []), (1243, .invokestatic 242, 1246, 2, 1, 254, []), (1246, .istore 6, 1248, 0, 0, 0, []), (1248, .aload_n 2, 1249, 0, 0, 0, []), (1249, .invokevirtual 244, 1252, 1, 0, 190, []), (1252, .istore 7, 1254, 0, 0, 0, []), (1254, .aload_n 2, 1255, 0, 0, 0, []), (1255, .invokevirtual 168, 1258, 1, 0, 133, []), (1258, .iload 6, 1260, 0, 0, 0, []), (1260, .if_icmp .eq 5, 1263, 1265, 0, 0, []), (1263, .iconst 0, 1264, 0, 0, 0, []), (1264, .ireturn, 1265, 0, 0, 0, []), (1265, .iload 6, 1267, 0, 0, 0, []), (1267, .ifCond .ne 15, 1270, 1282, 0, 0, []), (1270, .aload_n 3, 1271, 0, 0, 0, []), (1271, .iconst 0, 1272, 0, 0, 0, []), (1272, .laload, 1273, 0, 0, 0, []), (1273, .iload 7, 1275, 0, 0, 0, []), (1275, .i2l, 1276, 0, 0, 0, []), (1276, .lcmp, 1277, 0, 0, 0, []), (1277, .ifCond .eq 5, 1280, 1282, 0, 0, []), (1280, .iconst 0, 1281, 0, 0, 0, []), (1281, .ireturn, 1282, 0, 0, 0, []), (1282, .goto 1577, 1285, 2859, 0, 0, [])]
set_option maxRecDepth 100000 in
theorem kc_nextGate : tc_nextGate.all (fun q => aOk 281 8 (aMt 281).2.1 q.1 q.2) = true := by decide +kernel
def tc_gatesPassedTo : aT := [(1285, .aload_n 1, 1286, 0, 0, 0, []), (1286, .aload_n 0, 1287, 0, 0, 0, []), (1287, .iload 5, 1289, 0, 0, 0, []), (1289, .iconst 1, 1290, 0, 0, 0, []), (1290, .iadd, 1291, 0, 0, 0, []), (1291, .iaload, 1292, 0, 0, 0, []), (1292, .aload_n 0, 1293, 0, 0, 0, []), (1293, .iload 5, 1295, 0, 0, 0, []), (1295, .iconst 2, 1296, 0, 0, 0, []), (1296, .iadd, 1297, 0, 0, 0, []), (1297, .iaload, 1298, 0, 0, 0, []), (1298, .aload_n 3, 1299, 0, 0, 0, []), (1299, .invokestatic 245, 1302, 4, 1, 255, []), (1302, .istore 6, 1304, 0, 0, 0, []), (1304, .aload_n 2, 1305, 0, 0, 0, []), (1305, .aload_n 0, 1306, 0, 0, 0, []), (1306, .iload 5, 1308, 0, 0, 0, []), (1308, .iconst 1, 1309, 0, 0, 0, []), (1309, .iadd, 1310, 0, 0, 0, []), (1310, .iaload, 1311, 0, 0, 0, []), (1311, .aload_n 0, 1312, 0, 0, 0, []), (1312, .iload 5, 1314, 0, 0, 0, []), (1314, .iconst 2, 1315, 0, 0, 0, []), (1315, .iadd, 1316, 0, 0, 0, []), (1316, .iaload, 1317, 0, 0, 0, []), (1317, .invokevirtual 247, 1320, 3, 0, 192, []), (1320, .istore 7, 1322, 0, 0, 0, []), (1322, .aload_n 2, 1323, 0, 0, 0, []), (1323, .invokevirtual 168, 1326, 1, 0, 133, []), (1326, .iload 6, 1328, 0, 0, 0, []), (1328, .if_icmp .eq 5, 1331, 1333, 0, 0, []), (1331, .iconst 0, 1332, 0, 0, 0, []), (1332, .ireturn, 1333, 0, 0, 0, []), (1333, .iload 6, 1335, 0, 0, 0, []), (1335, .ifCond .ne 15, 1338, 1350, 0, 0, []), (1338, .aload_n 3, 1339, 0, 0, 0, []), (1339, .iconst 0, 1340, 0, 0, 0, []), (1340, .laload, 1341, 0, 0, 0, []), (1341, .iload 7, 1343, 0, 0, 0, []), (1343, .i2l, 1344, 0, 0, 0, []), (1344, .lcmp, 1345, 0, 0, 0, []), (1345, .ifCond .eq 5, 1348, 1350, 0, 0, []), (1348, .iconst 0, 1349, 0, 0, 0, []), (1349, .ireturn, 1350, 0, 0, 0, []), (1350, .goto 1509, 1353, 2859, 0, 0, [])]
set_option maxRecDepth 100000 in
theorem kc_gatesPassedTo : tc_gatesPassedTo.all (fun q => aOk 281 8 (aMt 281).2.1 q.1 q.2) = true := by decide +kernel
def tc_isOffLine : aT := [(1353, .aload_n 1, 1354, 0, 0, 0, []), (1354, .aload_n 0, 1355, 0, 0, 0, []), (1355, .iload 5, 1357, 0, 0, 0, []), (1357, .iconst 1, 1358, 0, 0, 0, []), (1358, .iadd, 1359, 0, 0, 0, []), (1359, .iaload, 1360, 0, 0, 0, []), (1360, .aload_n 0, 1361, 0, 0, 0, []), (1361, .iload 5, 1363, 0, 0, 0, []), (1363, .iconst 2, 1364, 0, 0, 0, []), (1364, .iadd, 1365, 0, 0, 0, []), (1365, .iaload, 1366, 0, 0, 0, []), (1366, .aload_n 3, 1367, 0, 0, 0, []), (1367, .invokestatic 248, 1370, 4, 1, 256, []), (1370, .istore 6, 1372, 0, 0, 0, []), (1372, .aload_n 2, 1373, 0, 0, 0, []), (1373, .aload_n 0, 1374, 0, 0, 0, []), (1374, .iload 5, 1376, 0, 0, 0, []), (1376, .iconst 1, 1377, 0, 0, 0, []), (1377, .iadd, 1378, 0, 0, 0, []), (1378, .iaload, 1379, 0, 0, 0, []), (1379, .aload_n 0, 1380, 0, 0, 0, []), (1380, .iload 5, 1382, 0, 0, 0, []), (1382, .iconst 2, 1383, 0, 0, 0, []), (1383, .iadd, 1384, 0, 0, 0, []), (1384, .iaload, 1385, 0, 0, 0, []), (1385, .invokevirtual 250, 1388, 3, 0, 193, []), (1388, .istore 7, 1390, 0, 0, 0, []), (1390, .aload_n 2, 1391, 0, 0, 0, []), (1391, .invokevirtual 168, 1394, 1, 0, 133, []), (1394, .iload 6, 1396, 0, 0, 0, []), (1396, .if_icmp .eq 5, 1399, 1401, 0, 0, []), (1399, .iconst 0, 1400, 0, 0, 0, []), (1400, .ireturn, 1401, 0, 0, 0, []), (1401, .iload 6, 1403, 0, 0, 0, []), (1403, .ifCond .ne 22, 1406, 1425, 0, 0, []), (1406, .aload_n 3, 1407, 0, 0, 0, []), (1407, .iconst 0, 1408, 0, 0, 0, []), (1408, .laload, 1409, 0, 0, 0, []), (1409, .iload 7, 1411, 0, 0, 0, []), (1411, .ifCond .eq 7, 1414, 1418, 0, 0, []), (1414, .lconst 1, 1415, 0, 0, 0, []), (1415, .goto 4, 1418, 1419, 0, 0, []), (1418, .lconst 0, 1419, 0, 0, 0, []), (1419, .lcmp, 1420, 0, 0, 0, []), (1420, .ifCond .eq 5, 1423, 1425, 0, 0, []), (1423, .iconst 0, 1424, 0, 0, 0, []), (1424, .ireturn, 1425, 0, 0, 0, []), (1425, .goto 1434, 1428, 2859, 0, 0, [])]
set_option maxRecDepth 100000 in
theorem kc_isOffLine : tc_isOffLine.all (fun q => aOk 281 8 (aMt 281).2.1 q.1 q.2) = true := by decide +kernel
def tc_lossOfStep : aT := [(1428, .aload_n 1, 1429, 0, 0, 0, []), (1429, .aload_n 0, 1430, 0, 0, 0, []), (1430, .iload 5, 1432, 0, 0, 0, []), (1432, .iconst 1, 1433, 0, 0, 0, []), (1433, .iadd, 1434, 0, 0, 0, []), (1434, .iaload, 1435, 0, 0, 0, []), (1435, .aload_n 0, 1436, 0, 0, 0, []), (1436, .iload 5, 1438, 0, 0, 0, []), (1438, .iconst 2, 1439, 0, 0, 0, []), (1439, .iadd, 1440, 0, 0, 0, []), (1440, .iaload, 1441, 0, 0, 0, []), (1441, .aload_n 0, 1442, 0, 0, 0, []), (1442, .iload 5, 1444, 0, 0, 0, []), (1444, .iconst 3, 1445, 0, 0, 0, []), (1445, .iadd, 1446, 0, 0, 0, []), (1446, .iaload, 1447, 0, 0, 0, []), (1447, .aload_n 3, 1448, 0, 0, 0, []), (1448, .invokestatic 251, 1451, 5, 1, 257, []), (1451, .istore 6, 1453, 0, 0, 0, []), (1453, .aload_n 2, 1454, 0, 0, 0, []), (1454, .aload_n 0, 1455, 0, 0, 0, []), (1455, .iload 5, 1457, 0, 0, 0, []), (1457, .iconst 1, 1458, 0, 0, 0, []), (1458, .iadd, 1459, 0, 0, 0, []), (1459, .iaload, 1460, 0, 0, 0, []), (1460, .aload_n 0, 1461, 0, 0, 0, []), (1461, .iload 5, 1463, 0, 0, 0, []), (1463, .iconst 2, 1464, 0, 0, 0, []), (1464, .iadd, 1465, 0, 0, 0, []), (1465, .iaload, 1466, 0, 0, 0, []), (1466, .aload_n 0, 1467, 0, 0, 0, []), (1467, .iload 5, 1469, 0, 0, 0, []), (1469, .iconst 3, 1470, 0, 0, 0, []), (1470, .iadd, 1471, 0, 0, 0, []), (1471, .iaload, 1472, 0, 0, 0, []), (1472, .invokevirtual 253, 1475, 4, 0, 194, []), (1475, .istore 7, 1477, 0, 0, 0, []), (1477, .aload_n 2, 1478, 0, 0, 0, []), (1478, .invokevirtual 168, 1481, 1, 0, 133, []), (1481, .iload 6, 1483, 0, 0, 0, []), (1483, .if_icmp .eq 5, 1486, 1488, 0, 0, []), (1486, .iconst 0, 1487, 0, 0, 0, []), (1487, .ireturn, 1488, 0, 0, 0, []), (1488, .iload 6, 1490, 0, 0, 0, []), (1490, .ifCond .ne 15, 1493, 1505, 0, 0, []), (1493, .aload_n 3, 1494, 0, 0, 0, []), (1494, .iconst 0, 1495, 0, 0, 0, []), (1495, .laload, 1496, 0, 0, 0, []), (1496, .iload 7, 1498, 0, 0, 0, []), (1498, .i2l, 1499, 0, 0, 0, []), (1499, .lcmp, 1500, 0, 0, 0, []), (1500, .ifCond .eq 5, 1503, 1505, 0, 0, []), (1503, .iconst 0, 1504, 0, 0, 0, []), (1504, .ireturn, 1505, 0, 0, 0, []), (1505, .goto 1354, 1508, 2859, 0, 0, [])]
set_option maxRecDepth 100000 in
theorem kc_lossOfStep : tc_lossOfStep.all (fun q => aOk 281 8 (aMt 281).2.1 q.1 q.2) = true := by decide +kernel
def tc_runs : aT := [(1508, .aload_n 1, 1509, 0, 0, 0, []), (1509, .invokevirtual 254, 1512, 1, 0, 94, []), (1512, .aload_n 2, 1513, 0, 0, 0, []), (1513, .invokevirtual 257, 1516, 1, 0, 195, []), (1516, .if_icmp .eq 1343, 1519, 2859, 0, 0, []), (1519, .iconst 0, 1520, 0, 0, 0, []), (1520, .ireturn, 1521, 0, 0, 0, [])]
set_option maxRecDepth 100000 in
theorem kc_runs : tc_runs.all (fun q => aOk 281 8 (aMt 281).2.1 q.1 q.2) = true := by decide +kernel
def tc_isComplete : aT := [(1521, .aload_n 1, 1522, 0, 0, 0, []), (1522, .aload_n 0, 1523, 0, 0, 0, []), (1523, .iload 5, 1525, 0, 0, 0, []), (1525, .iconst 1, 1526, 0, 0, 0, []), (1526, .iadd, 1527, 0, 0, 0, []), (1527, .iaload, 1528, 0, 0, 0, []), (1528, .aload_n 3, 1529, 0, 0, 0, []), (1529, .invokestatic 258, 1532, 3, 1, 258, []), (1532, .istore 6, 1534, 0, 0, 0, []), (1534, .aload_n 2, 1535, 0, 0, 0, []), (1535, .aload_n 0, 1536, 0, 0, 0, []), (1536, .iload 5, 1538, 0, 0, 0, []), (1538, .iconst 1, 1539, 0, 0, 0, []), (1539, .iadd, 1540, 0, 0, 0, []), (1540, .iaload, 1541, 0, 0, 0, []), (1541, .invokevirtual 260, 1544, 2, 0, 197, []), (1544, .istore 7, 1546, 0, 0, 0, []), (1546, .aload_n 2, 1547, 0, 0, 0, []), (1547, .invokevirtual 168, 1550, 1, 0, 133, []), (1550, .iload 6, 1552, 0, 0, 0, []), (1552, .if_icmp .eq 5, 1555, 1557, 0, 0, []), (1555, .iconst 0, 1556, 0, 0, 0, []), (1556, .ireturn, 1557, 0, 0, 0, []), (1557, .iload 6, 1559, 0, 0, 0, []), (1559, .ifCond .ne 22, 1562, 1581, 0, 0, []), (1562, .aload_n 3, 1563, 0, 0, 0, []), (1563, .iconst 0, 1564, 0, 0, 0, []), (1564, .laload, 1565, 0, 0, 0, []), (1565, .iload 7, 1567, 0, 0, 0, []), (1567, .ifCond .eq 7, 1570, 1574, 0, 0, []), (1570, .lconst 1, 1571, 0, 0, 0, []), (1571, .goto 4, 1574, 1575, 0, 0, []), (1574, .lconst 0, 1575, 0, 0, 0, []), (1575, .lcmp, 1576, 0, 0, 0, []), (1576, .ifCond .eq 5, 1579, 1581, 0, 0, []), (1579, .iconst 0, 1580, 0, 0, 0, []), (1580, .ireturn, 1581, 0, 0, 0, []), (1581, .goto 1278, 1584, 2859, 0, 0, [])]
set_option maxRecDepth 100000 in
theorem kc_isComplete : tc_isComplete.all (fun q => aOk 281 8 (aMt 281).2.1 q.1 q.2) = true := by decide +kernel
section LC
variable {l : Launch} {g : aG} {Q : Option aV → aSt → aM → Prop} {X : Nat → aSt → aM → Prop} {B : aK → aM → Nat → List (Option aV) → List aV → Prop} {S : Int → Int} {z : aM} {A : aAb} {i : Int} {c1 c2 : Nat}
theorem wL_presentLeg (hB : lBt l g Q X B) (h : lIn g S z A i c1 c2) (hN : lNx S B i c1 c2) : B (none, c1, c2) z 1109 [some (.inr (.inr (.inl (31, 0, 0)))), some (.inr (.inr (.inl (0, 0, 0)))), some (.inr (.inr (.inl (16, 0, 0)))), some (.inr (.inr (.inl (18, 0, 0)))), some (.inr (.inr (.inl (19, 0, 0)))), some (.inl i), none, none, none] [] := by
  obtain ⟨hs, hS, ⟨i0, i1⟩, k1, k2⟩ := h
  obtain ⟨⟨hC, hM⟩, ⟨hI, hL⟩, hz⟩ := id hs
  have lv := lV_presentLeg  hI
  have ct : lOp l g nL_presentLeg 19 [.inr (.inr (.inl (0, 0, 0))), .inr (.inr (.inl (18, 0, 0)))] z (lQ z (qGoing (wM A 8) A)) := by
    exact lT_presentLeg (by decide) (cT_presentLeg (by decide) hC hI) lv.1 lv.2
  have hIL : InvW (qGoing (wM A 8) A).2.2 ∧ InvL (qGoing (wM A 8) A).2.2 := lI_A qGoing_A hI hL
  have cm0 : ∀ z1, RelM z1 A → mOp l g nX7_presentLeg 19 [.inr (.inr (.inl (16, 0, 0)))] z1 (qGoing (wM A 8) A) := fun z1 md => cM_presentLeg (by decide) md hI
  obtain ⟨R, eR⟩ : ∃ R : aRes, R = (qGoing (wM A 8) A) := ⟨_, rfl⟩
  rw [← eR] at lv ct hIL
  simp only [← eR] at cm0
  clear eR
  have lt0 : 0 ≤ R.1 ∧ R.1 ≤ 3 := by have := lv.1; omega
  have l3 : ∀ (z2 : aM) (t : Int) (v : Int) (A2 : aAb), lS S z2 A2 → (0 ≤ t ∧ t ≤ 3) → z2 (16, 0, 0) 9 = t → (t = 0 → z2 (18, 0, 0) 0 = v) → (t = 0 → aIR v) → B (none, c1 + 1, c2 + 6) z2 1120 [some (.inr (.inr (.inl (31, 0, 0)))), some (.inr (.inr (.inl (0, 0, 0)))), some (.inr (.inr (.inl (16, 0, 0)))), some (.inr (.inr (.inl (18, 0, 0)))), some (.inr (.inr (.inl (19, 0, 0)))), some (.inl i), some (.inl t), none, none] [.inl v] := by
    intro z2 t v A2 hs2 ht e9 e18 hv
    have fin := hN z2 A2 (some (.inl t)) (some (.inl v)) none (c1 + 1) (c2 + 6) hs2 (Nat.le_refl _) (Nat.le_refl _)
    have th := cM_thrown (l := l) (g := g) (d := 19) (z := z2)
    by_cases t0 : t = 0
    · have f18 := e18 t0
      have fv := hv t0
      have ec : aCmp (z2 (18, 0, 0) 0) v = 0 := by rw [f18]; exact aCmp_rf v
      unfold aIR at fv
      refine hB tc_presentLeg kc_presentLeg [2859] 1000 _ _ _ _ _ ?_
      repeat' (first | exact fin | refine And.intro ?_ ?_ | (intro hh; first | exact absurd hh (by decide) | exact absurd rfl hh | (exfalso; omega) | skip) | refine Or.inl (uE th ?_) | fail)
      all_goals first | omega | (exact rfl) | (show (1 : Nat) ≤ 20; decide)
    · refine hB tc_presentLeg kc_presentLeg [2859] 1000 _ _ _ _ _ ?_
      repeat' (first | exact fin | refine And.intro ?_ ?_ | (intro hh; first | exact absurd hh (by decide) | exact absurd rfl hh | (exfalso; omega) | skip) | refine Or.inl (uE th ?_) | fail)
      all_goals first | omega | (exact rfl) | (show (1 : Nat) ≤ 20; decide)
  have l2 : ∀ r z1, lQ z R r z1 → aPu r [] (fun st => B (none, c1 + 1, c2 + 6) z1 1114 [some (.inr (.inr (.inl (31, 0, 0)))), some (.inr (.inr (.inl (0, 0, 0)))), some (.inr (.inr (.inl (16, 0, 0)))), some (.inr (.inr (.inl (18, 0, 0)))), some (.inr (.inr (.inl (19, 0, 0)))), some (.inl i), none, none, none] st) := by
    intro r z1 hz1
    obtain ⟨rfl, q1, q2, q3⟩ := hz1
    have md := hs.mid q3
    have cm : mOp l g nX7_presentLeg 19 [.inr (.inr (.inl (16, 0, 0)))] z1 R := by
      exact cm0 z1 md.1
    have l4 : ∀ r z2, (r = some (.inl R.2.1) ∧ (RelM z2 R.2.2 ∧ z2 (16, 0, 0) 9 = R.1) ∧ fM z1 z2) → aPu r [] (fun st => B (none, c1 + 1, c2 + 6) z2 1120 [some (.inr (.inr (.inl (31, 0, 0)))), some (.inr (.inr (.inl (0, 0, 0)))), some (.inr (.inr (.inl (16, 0, 0)))), some (.inr (.inr (.inl (18, 0, 0)))), some (.inr (.inr (.inl (19, 0, 0)))), some (.inl i), some (.inl R.1), none, none] st) := by
      intro r z2 hz2
      obtain ⟨rfl, ⟨p1, p2⟩, p3⟩ := hz2
      exact l3 z2 R.1 R.2.1 R.2.2 (hs.fin q3 q2 p1 p3 hIL.1 hIL.2) lt0 p2 (fun w => by rw [p3 (18, 0, 0) ⟨by decide, by decide⟩]; exact q1 w) lv.2
    refine hB tc_presentLeg kc_presentLeg [1120] 1000 _ _ _ _ _ ?_
    repeat' (first | exact Or.inl (uA cm l4) | refine And.intro ?_ ?_ | (intro hh; first | exact absurd hh (by decide) | exact absurd rfl hh | (exfalso; omega) | skip) | fail)
    all_goals first | omega | (exact rfl) | (show (1 : Nat) ≤ 20; decide)
  refine hB tc_presentLeg kc_presentLeg [1114] 1000 _ _ _ _ _ ?_
  repeat' (first | exact Or.inr (Or.inr ⟨1, 6, ⟨k1, k2⟩, uL ct l2⟩) | refine And.intro ?_ ?_ | (intro hh; first | exact absurd hh (by decide) | exact absurd rfl hh | (exfalso; omega) | skip) | fail)
  all_goals first | omega | (exact rfl) | (show (1 : Nat) ≤ 20; decide)
theorem wL_flockX (hB : lBt l g Q X B) (h : lIn g S z A i c1 c2) (hN : lNx S B i c1 c2) : B (none, c1, c2) z 1153 [some (.inr (.inr (.inl (31, 0, 0)))), some (.inr (.inr (.inl (0, 0, 0)))), some (.inr (.inr (.inl (16, 0, 0)))), some (.inr (.inr (.inl (18, 0, 0)))), some (.inr (.inr (.inl (19, 0, 0)))), some (.inl i), none, none, none] [] := by
  obtain ⟨hs, hS, ⟨i0, i1⟩, k1, k2⟩ := h
  obtain ⟨⟨hC, hM⟩, ⟨hI, hL⟩, hz⟩ := id hs
  have lv := lV_flockX  hI
  have ct : lOp l g nL_flockX 19 [.inr (.inr (.inl (0, 0, 0))), .inr (.inr (.inl (18, 0, 0)))] z (lQ z (qGoing (wM A 9) A)) := by
    exact lT_flockX (by decide) (cT_flockX (by decide) hC hI) lv.1 lv.2
  have hIL : InvW (qGoing (wM A 9) A).2.2 ∧ InvL (qGoing (wM A 9) A).2.2 := lI_A qGoing_A hI hL
  have cm0 : ∀ z1, RelM z1 A → mOp l g nX7_flockX 19 [.inr (.inr (.inl (16, 0, 0)))] z1 (qGoing (wM A 9) A) := fun z1 md => cM_flockX (by decide) md hI
  obtain ⟨R, eR⟩ : ∃ R : aRes, R = (qGoing (wM A 9) A) := ⟨_, rfl⟩
  rw [← eR] at lv ct hIL
  simp only [← eR] at cm0
  clear eR
  have lt0 : 0 ≤ R.1 ∧ R.1 ≤ 3 := by have := lv.1; omega
  have l3 : ∀ (z2 : aM) (t : Int) (v : Int) (A2 : aAb), lS S z2 A2 → (0 ≤ t ∧ t ≤ 3) → z2 (16, 0, 0) 9 = t → (t = 0 → z2 (18, 0, 0) 0 = v) → (t = 0 → aIR v) → B (none, c1 + 1, c2 + 6) z2 1164 [some (.inr (.inr (.inl (31, 0, 0)))), some (.inr (.inr (.inl (0, 0, 0)))), some (.inr (.inr (.inl (16, 0, 0)))), some (.inr (.inr (.inl (18, 0, 0)))), some (.inr (.inr (.inl (19, 0, 0)))), some (.inl i), some (.inl t), none, none] [.inl v] := by
    intro z2 t v A2 hs2 ht e9 e18 hv
    have fin := hN z2 A2 (some (.inl t)) (some (.inl v)) none (c1 + 1) (c2 + 6) hs2 (Nat.le_refl _) (Nat.le_refl _)
    have th := cM_thrown (l := l) (g := g) (d := 19) (z := z2)
    by_cases t0 : t = 0
    · have f18 := e18 t0
      have fv := hv t0
      have ec : aCmp (z2 (18, 0, 0) 0) v = 0 := by rw [f18]; exact aCmp_rf v
      unfold aIR at fv
      refine hB tc_flockX kc_flockX [2859] 1000 _ _ _ _ _ ?_
      repeat' (first | exact fin | refine And.intro ?_ ?_ | (intro hh; first | exact absurd hh (by decide) | exact absurd rfl hh | (exfalso; omega) | skip) | refine Or.inl (uE th ?_) | fail)
      all_goals first | omega | (exact rfl) | (show (1 : Nat) ≤ 20; decide)
    · refine hB tc_flockX kc_flockX [2859] 1000 _ _ _ _ _ ?_
      repeat' (first | exact fin | refine And.intro ?_ ?_ | (intro hh; first | exact absurd hh (by decide) | exact absurd rfl hh | (exfalso; omega) | skip) | refine Or.inl (uE th ?_) | fail)
      all_goals first | omega | (exact rfl) | (show (1 : Nat) ≤ 20; decide)
  have l2 : ∀ r z1, lQ z R r z1 → aPu r [] (fun st => B (none, c1 + 1, c2 + 6) z1 1158 [some (.inr (.inr (.inl (31, 0, 0)))), some (.inr (.inr (.inl (0, 0, 0)))), some (.inr (.inr (.inl (16, 0, 0)))), some (.inr (.inr (.inl (18, 0, 0)))), some (.inr (.inr (.inl (19, 0, 0)))), some (.inl i), none, none, none] st) := by
    intro r z1 hz1
    obtain ⟨rfl, q1, q2, q3⟩ := hz1
    have md := hs.mid q3
    have cm : mOp l g nX7_flockX 19 [.inr (.inr (.inl (16, 0, 0)))] z1 R := by
      exact cm0 z1 md.1
    have l4 : ∀ r z2, (r = some (.inl R.2.1) ∧ (RelM z2 R.2.2 ∧ z2 (16, 0, 0) 9 = R.1) ∧ fM z1 z2) → aPu r [] (fun st => B (none, c1 + 1, c2 + 6) z2 1164 [some (.inr (.inr (.inl (31, 0, 0)))), some (.inr (.inr (.inl (0, 0, 0)))), some (.inr (.inr (.inl (16, 0, 0)))), some (.inr (.inr (.inl (18, 0, 0)))), some (.inr (.inr (.inl (19, 0, 0)))), some (.inl i), some (.inl R.1), none, none] st) := by
      intro r z2 hz2
      obtain ⟨rfl, ⟨p1, p2⟩, p3⟩ := hz2
      exact l3 z2 R.1 R.2.1 R.2.2 (hs.fin q3 q2 p1 p3 hIL.1 hIL.2) lt0 p2 (fun w => by rw [p3 (18, 0, 0) ⟨by decide, by decide⟩]; exact q1 w) lv.2
    refine hB tc_flockX kc_flockX [1164] 1000 _ _ _ _ _ ?_
    repeat' (first | exact Or.inl (uA cm l4) | refine And.intro ?_ ?_ | (intro hh; first | exact absurd hh (by decide) | exact absurd rfl hh | (exfalso; omega) | skip) | fail)
    all_goals first | omega | (exact rfl) | (show (1 : Nat) ≤ 20; decide)
  refine hB tc_flockX kc_flockX [1158] 1000 _ _ _ _ _ ?_
  repeat' (first | exact Or.inr (Or.inr ⟨1, 6, ⟨k1, k2⟩, uL ct l2⟩) | refine And.intro ?_ ?_ | (intro hh; first | exact absurd hh (by decide) | exact absurd rfl hh | (exfalso; omega) | skip) | fail)
  all_goals first | omega | (exact rfl) | (show (1 : Nat) ≤ 20; decide)
theorem wL_flockY (hB : lBt l g Q X B) (h : lIn g S z A i c1 c2) (hN : lNx S B i c1 c2) : B (none, c1, c2) z 1197 [some (.inr (.inr (.inl (31, 0, 0)))), some (.inr (.inr (.inl (0, 0, 0)))), some (.inr (.inr (.inl (16, 0, 0)))), some (.inr (.inr (.inl (18, 0, 0)))), some (.inr (.inr (.inl (19, 0, 0)))), some (.inl i), none, none, none] [] := by
  obtain ⟨hs, hS, ⟨i0, i1⟩, k1, k2⟩ := h
  obtain ⟨⟨hC, hM⟩, ⟨hI, hL⟩, hz⟩ := id hs
  have lv := lV_flockY  hI
  have ct : lOp l g nL_flockY 19 [.inr (.inr (.inl (0, 0, 0))), .inr (.inr (.inl (18, 0, 0)))] z (lQ z (qGoing (wM A 10) A)) := by
    exact lT_flockY (by decide) (cT_flockY (by decide) hC hI) lv.1 lv.2
  have hIL : InvW (qGoing (wM A 10) A).2.2 ∧ InvL (qGoing (wM A 10) A).2.2 := lI_A qGoing_A hI hL
  have cm0 : ∀ z1, RelM z1 A → mOp l g nX7_flockY 19 [.inr (.inr (.inl (16, 0, 0)))] z1 (qGoing (wM A 10) A) := fun z1 md => cM_flockY (by decide) md hI
  obtain ⟨R, eR⟩ : ∃ R : aRes, R = (qGoing (wM A 10) A) := ⟨_, rfl⟩
  rw [← eR] at lv ct hIL
  simp only [← eR] at cm0
  clear eR
  have lt0 : 0 ≤ R.1 ∧ R.1 ≤ 3 := by have := lv.1; omega
  have l3 : ∀ (z2 : aM) (t : Int) (v : Int) (A2 : aAb), lS S z2 A2 → (0 ≤ t ∧ t ≤ 3) → z2 (16, 0, 0) 9 = t → (t = 0 → z2 (18, 0, 0) 0 = v) → (t = 0 → aIR v) → B (none, c1 + 1, c2 + 6) z2 1208 [some (.inr (.inr (.inl (31, 0, 0)))), some (.inr (.inr (.inl (0, 0, 0)))), some (.inr (.inr (.inl (16, 0, 0)))), some (.inr (.inr (.inl (18, 0, 0)))), some (.inr (.inr (.inl (19, 0, 0)))), some (.inl i), some (.inl t), none, none] [.inl v] := by
    intro z2 t v A2 hs2 ht e9 e18 hv
    have fin := hN z2 A2 (some (.inl t)) (some (.inl v)) none (c1 + 1) (c2 + 6) hs2 (Nat.le_refl _) (Nat.le_refl _)
    have th := cM_thrown (l := l) (g := g) (d := 19) (z := z2)
    by_cases t0 : t = 0
    · have f18 := e18 t0
      have fv := hv t0
      have ec : aCmp (z2 (18, 0, 0) 0) v = 0 := by rw [f18]; exact aCmp_rf v
      unfold aIR at fv
      refine hB tc_flockY kc_flockY [2859] 1000 _ _ _ _ _ ?_
      repeat' (first | exact fin | refine And.intro ?_ ?_ | (intro hh; first | exact absurd hh (by decide) | exact absurd rfl hh | (exfalso; omega) | skip) | refine Or.inl (uE th ?_) | fail)
      all_goals first | omega | (exact rfl) | (show (1 : Nat) ≤ 20; decide)
    · refine hB tc_flockY kc_flockY [2859] 1000 _ _ _ _ _ ?_
      repeat' (first | exact fin | refine And.intro ?_ ?_ | (intro hh; first | exact absurd hh (by decide) | exact absurd rfl hh | (exfalso; omega) | skip) | refine Or.inl (uE th ?_) | fail)
      all_goals first | omega | (exact rfl) | (show (1 : Nat) ≤ 20; decide)
  have l2 : ∀ r z1, lQ z R r z1 → aPu r [] (fun st => B (none, c1 + 1, c2 + 6) z1 1202 [some (.inr (.inr (.inl (31, 0, 0)))), some (.inr (.inr (.inl (0, 0, 0)))), some (.inr (.inr (.inl (16, 0, 0)))), some (.inr (.inr (.inl (18, 0, 0)))), some (.inr (.inr (.inl (19, 0, 0)))), some (.inl i), none, none, none] st) := by
    intro r z1 hz1
    obtain ⟨rfl, q1, q2, q3⟩ := hz1
    have md := hs.mid q3
    have cm : mOp l g nX7_flockY 19 [.inr (.inr (.inl (16, 0, 0)))] z1 R := by
      exact cm0 z1 md.1
    have l4 : ∀ r z2, (r = some (.inl R.2.1) ∧ (RelM z2 R.2.2 ∧ z2 (16, 0, 0) 9 = R.1) ∧ fM z1 z2) → aPu r [] (fun st => B (none, c1 + 1, c2 + 6) z2 1208 [some (.inr (.inr (.inl (31, 0, 0)))), some (.inr (.inr (.inl (0, 0, 0)))), some (.inr (.inr (.inl (16, 0, 0)))), some (.inr (.inr (.inl (18, 0, 0)))), some (.inr (.inr (.inl (19, 0, 0)))), some (.inl i), some (.inl R.1), none, none] st) := by
      intro r z2 hz2
      obtain ⟨rfl, ⟨p1, p2⟩, p3⟩ := hz2
      exact l3 z2 R.1 R.2.1 R.2.2 (hs.fin q3 q2 p1 p3 hIL.1 hIL.2) lt0 p2 (fun w => by rw [p3 (18, 0, 0) ⟨by decide, by decide⟩]; exact q1 w) lv.2
    refine hB tc_flockY kc_flockY [1208] 1000 _ _ _ _ _ ?_
    repeat' (first | exact Or.inl (uA cm l4) | refine And.intro ?_ ?_ | (intro hh; first | exact absurd hh (by decide) | exact absurd rfl hh | (exfalso; omega) | skip) | fail)
    all_goals first | omega | (exact rfl) | (show (1 : Nat) ≤ 20; decide)
  refine hB tc_flockY kc_flockY [1202] 1000 _ _ _ _ _ ?_
  repeat' (first | exact Or.inr (Or.inr ⟨1, 6, ⟨k1, k2⟩, uL ct l2⟩) | refine And.intro ?_ ?_ | (intro hh; first | exact absurd hh (by decide) | exact absurd rfl hh | (exfalso; omega) | skip) | fail)
  all_goals first | omega | (exact rfl) | (show (1 : Nat) ≤ 20; decide)
theorem wL_nextGate (hB : lBt l g Q X B) (h : lIn g S z A i c1 c2) (hN : lNx S B i c1 c2) : B (none, c1, c2) z 1241 [some (.inr (.inr (.inl (31, 0, 0)))), some (.inr (.inr (.inl (0, 0, 0)))), some (.inr (.inr (.inl (16, 0, 0)))), some (.inr (.inr (.inl (18, 0, 0)))), some (.inr (.inr (.inl (19, 0, 0)))), some (.inl i), none, none, none] [] := by
  obtain ⟨hs, hS, ⟨i0, i1⟩, k1, k2⟩ := h
  obtain ⟨⟨hC, hM⟩, ⟨hI, hL⟩, hz⟩ := id hs
  have lv := lV_nextGate  hI
  have ct : lOp l g nL_nextGate 19 [.inr (.inr (.inl (0, 0, 0))), .inr (.inr (.inl (18, 0, 0)))] z (lQ z (qNext A)) := by
    exact lT_nextGate (by decide) (cT_nextGate (by decide) hC hI) lv.1 lv.2
  have hIL : InvW (qNext A).2.2 ∧ InvL (qNext A).2.2 := lI_A qNext_A hI hL
  have cm0 : ∀ z1, RelM z1 A → mOp l g nX7_nextGate 19 [.inr (.inr (.inl (16, 0, 0)))] z1 (qNext A) := fun z1 md => cM_nextGate (by decide) md hI
  obtain ⟨R, eR⟩ : ∃ R : aRes, R = (qNext A) := ⟨_, rfl⟩
  rw [← eR] at lv ct hIL
  simp only [← eR] at cm0
  clear eR
  have lt0 : 0 ≤ R.1 ∧ R.1 ≤ 3 := by have := lv.1; omega
  have l3 : ∀ (z2 : aM) (t : Int) (v : Int) (A2 : aAb), lS S z2 A2 → (0 ≤ t ∧ t ≤ 3) → z2 (16, 0, 0) 9 = t → (t = 0 → z2 (18, 0, 0) 0 = v) → (t = 0 → aIR v) → B (none, c1 + 1, c2 + 6) z2 1252 [some (.inr (.inr (.inl (31, 0, 0)))), some (.inr (.inr (.inl (0, 0, 0)))), some (.inr (.inr (.inl (16, 0, 0)))), some (.inr (.inr (.inl (18, 0, 0)))), some (.inr (.inr (.inl (19, 0, 0)))), some (.inl i), some (.inl t), none, none] [.inl v] := by
    intro z2 t v A2 hs2 ht e9 e18 hv
    have fin := hN z2 A2 (some (.inl t)) (some (.inl v)) none (c1 + 1) (c2 + 6) hs2 (Nat.le_refl _) (Nat.le_refl _)
    have th := cM_thrown (l := l) (g := g) (d := 19) (z := z2)
    by_cases t0 : t = 0
    · have f18 := e18 t0
      have fv := hv t0
      have ec : aCmp (z2 (18, 0, 0) 0) v = 0 := by rw [f18]; exact aCmp_rf v
      unfold aIR at fv
      refine hB tc_nextGate kc_nextGate [2859] 1000 _ _ _ _ _ ?_
      repeat' (first | exact fin | refine And.intro ?_ ?_ | (intro hh; first | exact absurd hh (by decide) | exact absurd rfl hh | (exfalso; omega) | skip) | refine Or.inl (uE th ?_) | fail)
      all_goals first | omega | (exact rfl) | (show (1 : Nat) ≤ 20; decide)
    · refine hB tc_nextGate kc_nextGate [2859] 1000 _ _ _ _ _ ?_
      repeat' (first | exact fin | refine And.intro ?_ ?_ | (intro hh; first | exact absurd hh (by decide) | exact absurd rfl hh | (exfalso; omega) | skip) | refine Or.inl (uE th ?_) | fail)
      all_goals first | omega | (exact rfl) | (show (1 : Nat) ≤ 20; decide)
  have l2 : ∀ r z1, lQ z R r z1 → aPu r [] (fun st => B (none, c1 + 1, c2 + 6) z1 1246 [some (.inr (.inr (.inl (31, 0, 0)))), some (.inr (.inr (.inl (0, 0, 0)))), some (.inr (.inr (.inl (16, 0, 0)))), some (.inr (.inr (.inl (18, 0, 0)))), some (.inr (.inr (.inl (19, 0, 0)))), some (.inl i), none, none, none] st) := by
    intro r z1 hz1
    obtain ⟨rfl, q1, q2, q3⟩ := hz1
    have md := hs.mid q3
    have cm : mOp l g nX7_nextGate 19 [.inr (.inr (.inl (16, 0, 0)))] z1 R := by
      exact cm0 z1 md.1
    have l4 : ∀ r z2, (r = some (.inl R.2.1) ∧ (RelM z2 R.2.2 ∧ z2 (16, 0, 0) 9 = R.1) ∧ fM z1 z2) → aPu r [] (fun st => B (none, c1 + 1, c2 + 6) z2 1252 [some (.inr (.inr (.inl (31, 0, 0)))), some (.inr (.inr (.inl (0, 0, 0)))), some (.inr (.inr (.inl (16, 0, 0)))), some (.inr (.inr (.inl (18, 0, 0)))), some (.inr (.inr (.inl (19, 0, 0)))), some (.inl i), some (.inl R.1), none, none] st) := by
      intro r z2 hz2
      obtain ⟨rfl, ⟨p1, p2⟩, p3⟩ := hz2
      exact l3 z2 R.1 R.2.1 R.2.2 (hs.fin q3 q2 p1 p3 hIL.1 hIL.2) lt0 p2 (fun w => by rw [p3 (18, 0, 0) ⟨by decide, by decide⟩]; exact q1 w) lv.2
    refine hB tc_nextGate kc_nextGate [1252] 1000 _ _ _ _ _ ?_
    repeat' (first | exact Or.inl (uA cm l4) | refine And.intro ?_ ?_ | (intro hh; first | exact absurd hh (by decide) | exact absurd rfl hh | (exfalso; omega) | skip) | fail)
    all_goals first | omega | (exact rfl) | (show (1 : Nat) ≤ 20; decide)
  refine hB tc_nextGate kc_nextGate [1246] 1000 _ _ _ _ _ ?_
  repeat' (first | exact Or.inr (Or.inr ⟨1, 6, ⟨k1, k2⟩, uL ct l2⟩) | refine And.intro ?_ ?_ | (intro hh; first | exact absurd hh (by decide) | exact absurd rfl hh | (exfalso; omega) | skip) | fail)
  all_goals first | omega | (exact rfl) | (show (1 : Nat) ≤ 20; decide)
theorem wL_gatesPassedTo (hB : lBt l g Q X B) (h : lIn g S z A i c1 c2) (hN : lNx S B i c1 c2) : B (none, c1, c2) z 1285 [some (.inr (.inr (.inl (31, 0, 0)))), some (.inr (.inr (.inl (0, 0, 0)))), some (.inr (.inr (.inl (16, 0, 0)))), some (.inr (.inr (.inl (18, 0, 0)))), some (.inr (.inr (.inl (19, 0, 0)))), some (.inl i), none, none, none] [] := by
  obtain ⟨hs, hS, ⟨i0, i1⟩, k1, k2⟩ := h
  obtain ⟨⟨hC, hM⟩, ⟨hI, hL⟩, hz⟩ := id hs
  obtain ⟨x1, e1⟩ : ∃ x, x = z (31, 0, 0) (i + 1) := ⟨_, rfl⟩
  have h1 : aIR x1 := by rw [e1, hz]; exact hS _
  obtain ⟨x2, e2⟩ : ∃ x, x = z (31, 0, 0) (i + 2) := ⟨_, rfl⟩
  have h2 : aIR x2 := by rw [e2, hz]; exact hS _
  have lv := lV_gatesPassedTo (x := x1) (y := x2) hI
  have ct : lOp l g nL_gatesPassedTo 19 [.inr (.inr (.inl (0, 0, 0))), .inl (z (31, 0, 0) (i + 1)), .inl (z (31, 0, 0) (i + 2)), .inr (.inr (.inl (18, 0, 0)))] z (lQ z (qPassedTo x1 x2 A)) := by
    rw [← e1]
    rw [← e2]
    exact lT_gatesPassedTo (by decide) (cT_gatesPassedTo h1 h2 (by decide) hC hI) lv.1 lv.2
  have hIL : InvW (qPassedTo x1 x2 A).2.2 ∧ InvL (qPassedTo x1 x2 A).2.2 := lI_A qPassedTo_A hI hL
  have cm0 : ∀ z1, RelM z1 A → mOp l g nX7_gatesPassedTo 19 [.inr (.inr (.inl (16, 0, 0))), .inl x1, .inl x2] z1 (qPassedTo x1 x2 A) := fun z1 md => cM_gatesPassedTo h1 h2 (by decide) md hI
  obtain ⟨R, eR⟩ : ∃ R : aRes, R = (qPassedTo x1 x2 A) := ⟨_, rfl⟩
  rw [← eR] at lv ct hIL
  simp only [← eR] at cm0
  clear eR
  have lt0 : 0 ≤ R.1 ∧ R.1 ≤ 3 := by have := lv.1; omega
  have l3 : ∀ (z2 : aM) (t : Int) (v : Int) (A2 : aAb), lS S z2 A2 → (0 ≤ t ∧ t ≤ 3) → z2 (16, 0, 0) 9 = t → (t = 0 → z2 (18, 0, 0) 0 = v) → (t = 0 → aIR v) → B (none, c1 + 1, c2 + 6) z2 1320 [some (.inr (.inr (.inl (31, 0, 0)))), some (.inr (.inr (.inl (0, 0, 0)))), some (.inr (.inr (.inl (16, 0, 0)))), some (.inr (.inr (.inl (18, 0, 0)))), some (.inr (.inr (.inl (19, 0, 0)))), some (.inl i), some (.inl t), none, none] [.inl v] := by
    intro z2 t v A2 hs2 ht e9 e18 hv
    have fin := hN z2 A2 (some (.inl t)) (some (.inl v)) none (c1 + 1) (c2 + 6) hs2 (Nat.le_refl _) (Nat.le_refl _)
    have th := cM_thrown (l := l) (g := g) (d := 19) (z := z2)
    by_cases t0 : t = 0
    · have f18 := e18 t0
      have fv := hv t0
      have ec : aCmp (z2 (18, 0, 0) 0) v = 0 := by rw [f18]; exact aCmp_rf v
      unfold aIR at fv
      refine hB tc_gatesPassedTo kc_gatesPassedTo [2859] 1000 _ _ _ _ _ ?_
      repeat' (first | exact fin | refine And.intro ?_ ?_ | (intro hh; first | exact absurd hh (by decide) | exact absurd rfl hh | (exfalso; omega) | skip) | refine Or.inl (uE th ?_) | fail)
      all_goals first | omega | (exact rfl) | (show (1 : Nat) ≤ 20; decide)
    · refine hB tc_gatesPassedTo kc_gatesPassedTo [2859] 1000 _ _ _ _ _ ?_
      repeat' (first | exact fin | refine And.intro ?_ ?_ | (intro hh; first | exact absurd hh (by decide) | exact absurd rfl hh | (exfalso; omega) | skip) | refine Or.inl (uE th ?_) | fail)
      all_goals first | omega | (exact rfl) | (show (1 : Nat) ≤ 20; decide)
  have l2 : ∀ r z1, lQ z R r z1 → aPu r [] (fun st => B (none, c1 + 1, c2 + 6) z1 1302 [some (.inr (.inr (.inl (31, 0, 0)))), some (.inr (.inr (.inl (0, 0, 0)))), some (.inr (.inr (.inl (16, 0, 0)))), some (.inr (.inr (.inl (18, 0, 0)))), some (.inr (.inr (.inl (19, 0, 0)))), some (.inl i), none, none, none] st) := by
    intro r z1 hz1
    obtain ⟨rfl, q1, q2, q3⟩ := hz1
    have md := hs.mid q3
    have a1 : z1 (31, 0, 0) (i + 1) = x1 := by rw [md.2]; exact e1.symm
    have a2 : z1 (31, 0, 0) (i + 2) = x2 := by rw [md.2]; exact e2.symm
    have cm : mOp l g nX7_gatesPassedTo 19 [.inr (.inr (.inl (16, 0, 0))), .inl (z1 (31, 0, 0) (i + 1)), .inl (z1 (31, 0, 0) (i + 2))] z1 R := by
      rw [a1]
      rw [a2]
      exact cm0 z1 md.1
    have l4 : ∀ r z2, (r = some (.inl R.2.1) ∧ (RelM z2 R.2.2 ∧ z2 (16, 0, 0) 9 = R.1) ∧ fM z1 z2) → aPu r [] (fun st => B (none, c1 + 1, c2 + 6) z2 1320 [some (.inr (.inr (.inl (31, 0, 0)))), some (.inr (.inr (.inl (0, 0, 0)))), some (.inr (.inr (.inl (16, 0, 0)))), some (.inr (.inr (.inl (18, 0, 0)))), some (.inr (.inr (.inl (19, 0, 0)))), some (.inl i), some (.inl R.1), none, none] st) := by
      intro r z2 hz2
      obtain ⟨rfl, ⟨p1, p2⟩, p3⟩ := hz2
      exact l3 z2 R.1 R.2.1 R.2.2 (hs.fin q3 q2 p1 p3 hIL.1 hIL.2) lt0 p2 (fun w => by rw [p3 (18, 0, 0) ⟨by decide, by decide⟩]; exact q1 w) lv.2
    refine hB tc_gatesPassedTo kc_gatesPassedTo [1320] 1000 _ _ _ _ _ ?_
    repeat' (first | exact Or.inl (uA cm l4) | refine And.intro ?_ ?_ | (intro hh; first | exact absurd hh (by decide) | exact absurd rfl hh | (exfalso; omega) | skip) | fail)
    all_goals first | omega | (exact rfl) | (show (1 : Nat) ≤ 20; decide)
  refine hB tc_gatesPassedTo kc_gatesPassedTo [1302] 1000 _ _ _ _ _ ?_
  repeat' (first | exact Or.inr (Or.inr ⟨1, 6, ⟨k1, k2⟩, uL ct l2⟩) | refine And.intro ?_ ?_ | (intro hh; first | exact absurd hh (by decide) | exact absurd rfl hh | (exfalso; omega) | skip) | fail)
  all_goals first | omega | (exact rfl) | (show (1 : Nat) ≤ 20; decide)
theorem wL_isOffLine (hB : lBt l g Q X B) (h : lIn g S z A i c1 c2) (hN : lNx S B i c1 c2) : B (none, c1, c2) z 1353 [some (.inr (.inr (.inl (31, 0, 0)))), some (.inr (.inr (.inl (0, 0, 0)))), some (.inr (.inr (.inl (16, 0, 0)))), some (.inr (.inr (.inl (18, 0, 0)))), some (.inr (.inr (.inl (19, 0, 0)))), some (.inl i), none, none, none] [] := by
  obtain ⟨hs, hS, ⟨i0, i1⟩, k1, k2⟩ := h
  obtain ⟨⟨hC, hM⟩, ⟨hI, hL⟩, hz⟩ := id hs
  obtain ⟨x1, e1⟩ : ∃ x, x = z (31, 0, 0) (i + 1) := ⟨_, rfl⟩
  have h1 : aIR x1 := by rw [e1, hz]; exact hS _
  obtain ⟨x2, e2⟩ : ∃ x, x = z (31, 0, 0) (i + 2) := ⟨_, rfl⟩
  have h2 : aIR x2 := by rw [e2, hz]; exact hS _
  have lv := lV_isOffLine (x := x1) (y := x2) hI
  have ct : lOp l g nL_isOffLine 19 [.inr (.inr (.inl (0, 0, 0))), .inl (z (31, 0, 0) (i + 1)), .inl (z (31, 0, 0) (i + 2)), .inr (.inr (.inl (18, 0, 0)))] z (lQ z (qOff x1 x2 A)) := by
    rw [← e1]
    rw [← e2]
    exact lT_isOffLine (by decide) (cT_isOffLine h1 h2 (by decide) hC hI) lv.1 lv.2
  have hIL : InvW (qOff x1 x2 A).2.2 ∧ InvL (qOff x1 x2 A).2.2 := lI_A qOff_A hI hL
  have cm0 : ∀ z1, RelM z1 A → mOp l g nX7_isOffLine 19 [.inr (.inr (.inl (16, 0, 0))), .inl x1, .inl x2] z1 (qOff x1 x2 A) := fun z1 md => cM_isOffLine h1 h2 (by decide) md hI
  obtain ⟨R, eR⟩ : ∃ R : aRes, R = (qOff x1 x2 A) := ⟨_, rfl⟩
  rw [← eR] at lv ct hIL
  simp only [← eR] at cm0
  clear eR
  have lt0 : 0 ≤ R.1 ∧ R.1 ≤ 3 := by have := lv.1; omega
  have l3 : ∀ (z2 : aM) (t : Int) (v : Int) (A2 : aAb), lS S z2 A2 → (0 ≤ t ∧ t ≤ 3) → z2 (16, 0, 0) 9 = t → (t = 0 → z2 (18, 0, 0) 0 = v) → (t = 0 → v = 0 ∨ v = 1) → B (none, c1 + 1, c2 + 6) z2 1388 [some (.inr (.inr (.inl (31, 0, 0)))), some (.inr (.inr (.inl (0, 0, 0)))), some (.inr (.inr (.inl (16, 0, 0)))), some (.inr (.inr (.inl (18, 0, 0)))), some (.inr (.inr (.inl (19, 0, 0)))), some (.inl i), some (.inl t), none, none] [.inl v] := by
    intro z2 t v A2 hs2 ht e9 e18 hv
    have fin := hN z2 A2 (some (.inl t)) (some (.inl v)) none (c1 + 1) (c2 + 6) hs2 (Nat.le_refl _) (Nat.le_refl _)
    have th := cM_thrown (l := l) (g := g) (d := 19) (z := z2)
    by_cases t0 : t = 0
    · have f18 := e18 t0
      rcases hv t0 with rfl | rfl
      · have ec : aCmp (z2 (18, 0, 0) 0) 0 = 0 := by rw [f18]; exact aCmp_rf 0
        refine hB tc_isOffLine kc_isOffLine [2859] 1000 _ _ _ _ _ ?_
        repeat' (first | exact fin | refine And.intro ?_ ?_ | (intro hh; first | exact absurd hh (by decide) | exact absurd rfl hh | (exfalso; omega) | skip) | refine Or.inl (uE th ?_) | fail)
        all_goals first | omega | (exact rfl) | (show (1 : Nat) ≤ 20; decide)
      · have ec : aCmp (z2 (18, 0, 0) 0) 1 = 0 := by rw [f18]; exact aCmp_rf 1
        refine hB tc_isOffLine kc_isOffLine [2859] 1000 _ _ _ _ _ ?_
        repeat' (first | exact fin | refine And.intro ?_ ?_ | (intro hh; first | exact absurd hh (by decide) | exact absurd rfl hh | (exfalso; omega) | skip) | refine Or.inl (uE th ?_) | fail)
        all_goals first | omega | (exact rfl) | (show (1 : Nat) ≤ 20; decide)
    · refine hB tc_isOffLine kc_isOffLine [2859] 1000 _ _ _ _ _ ?_
      repeat' (first | exact fin | refine And.intro ?_ ?_ | (intro hh; first | exact absurd hh (by decide) | exact absurd rfl hh | (exfalso; omega) | skip) | refine Or.inl (uE th ?_) | fail)
      all_goals first | omega | (exact rfl) | (show (1 : Nat) ≤ 20; decide)
  have l2 : ∀ r z1, lQ z R r z1 → aPu r [] (fun st => B (none, c1 + 1, c2 + 6) z1 1370 [some (.inr (.inr (.inl (31, 0, 0)))), some (.inr (.inr (.inl (0, 0, 0)))), some (.inr (.inr (.inl (16, 0, 0)))), some (.inr (.inr (.inl (18, 0, 0)))), some (.inr (.inr (.inl (19, 0, 0)))), some (.inl i), none, none, none] st) := by
    intro r z1 hz1
    obtain ⟨rfl, q1, q2, q3⟩ := hz1
    have md := hs.mid q3
    have a1 : z1 (31, 0, 0) (i + 1) = x1 := by rw [md.2]; exact e1.symm
    have a2 : z1 (31, 0, 0) (i + 2) = x2 := by rw [md.2]; exact e2.symm
    have cm : mOp l g nX7_isOffLine 19 [.inr (.inr (.inl (16, 0, 0))), .inl (z1 (31, 0, 0) (i + 1)), .inl (z1 (31, 0, 0) (i + 2))] z1 R := by
      rw [a1]
      rw [a2]
      exact cm0 z1 md.1
    have l4 : ∀ r z2, (r = some (.inl R.2.1) ∧ (RelM z2 R.2.2 ∧ z2 (16, 0, 0) 9 = R.1) ∧ fM z1 z2) → aPu r [] (fun st => B (none, c1 + 1, c2 + 6) z2 1388 [some (.inr (.inr (.inl (31, 0, 0)))), some (.inr (.inr (.inl (0, 0, 0)))), some (.inr (.inr (.inl (16, 0, 0)))), some (.inr (.inr (.inl (18, 0, 0)))), some (.inr (.inr (.inl (19, 0, 0)))), some (.inl i), some (.inl R.1), none, none] st) := by
      intro r z2 hz2
      obtain ⟨rfl, ⟨p1, p2⟩, p3⟩ := hz2
      exact l3 z2 R.1 R.2.1 R.2.2 (hs.fin q3 q2 p1 p3 hIL.1 hIL.2) lt0 p2 (fun w => by rw [p3 (18, 0, 0) ⟨by decide, by decide⟩]; exact q1 w) lv.2
    refine hB tc_isOffLine kc_isOffLine [1388] 1000 _ _ _ _ _ ?_
    repeat' (first | exact Or.inl (uA cm l4) | refine And.intro ?_ ?_ | (intro hh; first | exact absurd hh (by decide) | exact absurd rfl hh | (exfalso; omega) | skip) | fail)
    all_goals first | omega | (exact rfl) | (show (1 : Nat) ≤ 20; decide)
  refine hB tc_isOffLine kc_isOffLine [1370] 1000 _ _ _ _ _ ?_
  repeat' (first | exact Or.inr (Or.inr ⟨1, 6, ⟨k1, k2⟩, uL ct l2⟩) | refine And.intro ?_ ?_ | (intro hh; first | exact absurd hh (by decide) | exact absurd rfl hh | (exfalso; omega) | skip) | fail)
  all_goals first | omega | (exact rfl) | (show (1 : Nat) ≤ 20; decide)
theorem wL_lossOfStep (hB : lBt l g Q X B) (h : lIn g S z A i c1 c2) (hN : lNx S B i c1 c2) : B (none, c1, c2) z 1428 [some (.inr (.inr (.inl (31, 0, 0)))), some (.inr (.inr (.inl (0, 0, 0)))), some (.inr (.inr (.inl (16, 0, 0)))), some (.inr (.inr (.inl (18, 0, 0)))), some (.inr (.inr (.inl (19, 0, 0)))), some (.inl i), none, none, none] [] := by
  obtain ⟨hs, hS, ⟨i0, i1⟩, k1, k2⟩ := h
  obtain ⟨⟨hC, hM⟩, ⟨hI, hL⟩, hz⟩ := id hs
  obtain ⟨x1, e1⟩ : ∃ x, x = z (31, 0, 0) (i + 1) := ⟨_, rfl⟩
  have h1 : aIR x1 := by rw [e1, hz]; exact hS _
  obtain ⟨x2, e2⟩ : ∃ x, x = z (31, 0, 0) (i + 2) := ⟨_, rfl⟩
  have h2 : aIR x2 := by rw [e2, hz]; exact hS _
  obtain ⟨x3, e3⟩ : ∃ x, x = z (31, 0, 0) (i + 3) := ⟨_, rfl⟩
  have h3 : aIR x3 := by rw [e3, hz]; exact hS _
  have lv := lV_lossOfStep (x := x1) (y := x2) (s := x3) hI
  have ct : lOp l g nL_lossOfStep 19 [.inr (.inr (.inl (0, 0, 0))), .inl (z (31, 0, 0) (i + 1)), .inl (z (31, 0, 0) (i + 2)), .inl (z (31, 0, 0) (i + 3)), .inr (.inr (.inl (18, 0, 0)))] z (lQ z (qLoss x1 x2 x3 A)) := by
    rw [← e1]
    rw [← e2]
    rw [← e3]
    exact lT_lossOfStep (by decide) (cT_lossOfStep h1 h2 h3 (by decide) hC hI) lv.1 lv.2
  have hIL : InvW (qLoss x1 x2 x3 A).2.2 ∧ InvL (qLoss x1 x2 x3 A).2.2 := lI_A qLoss_A hI hL
  have cm0 : ∀ z1, RelM z1 A → mOp l g nX7_lossOfStep 19 [.inr (.inr (.inl (16, 0, 0))), .inl x1, .inl x2, .inl x3] z1 (qLoss x1 x2 x3 A) := fun z1 md => cM_lossOfStep h1 h2 h3 (by decide) md hI
  obtain ⟨R, eR⟩ : ∃ R : aRes, R = (qLoss x1 x2 x3 A) := ⟨_, rfl⟩
  rw [← eR] at lv ct hIL
  simp only [← eR] at cm0
  clear eR
  have lt0 : 0 ≤ R.1 ∧ R.1 ≤ 3 := by have := lv.1; omega
  have l3 : ∀ (z2 : aM) (t : Int) (v : Int) (A2 : aAb), lS S z2 A2 → (0 ≤ t ∧ t ≤ 3) → z2 (16, 0, 0) 9 = t → (t = 0 → z2 (18, 0, 0) 0 = v) → (t = 0 → aIR v) → B (none, c1 + 1, c2 + 6) z2 1475 [some (.inr (.inr (.inl (31, 0, 0)))), some (.inr (.inr (.inl (0, 0, 0)))), some (.inr (.inr (.inl (16, 0, 0)))), some (.inr (.inr (.inl (18, 0, 0)))), some (.inr (.inr (.inl (19, 0, 0)))), some (.inl i), some (.inl t), none, none] [.inl v] := by
    intro z2 t v A2 hs2 ht e9 e18 hv
    have fin := hN z2 A2 (some (.inl t)) (some (.inl v)) none (c1 + 1) (c2 + 6) hs2 (Nat.le_refl _) (Nat.le_refl _)
    have th := cM_thrown (l := l) (g := g) (d := 19) (z := z2)
    by_cases t0 : t = 0
    · have f18 := e18 t0
      have fv := hv t0
      have ec : aCmp (z2 (18, 0, 0) 0) v = 0 := by rw [f18]; exact aCmp_rf v
      unfold aIR at fv
      refine hB tc_lossOfStep kc_lossOfStep [2859] 1000 _ _ _ _ _ ?_
      repeat' (first | exact fin | refine And.intro ?_ ?_ | (intro hh; first | exact absurd hh (by decide) | exact absurd rfl hh | (exfalso; omega) | skip) | refine Or.inl (uE th ?_) | fail)
      all_goals first | omega | (exact rfl) | (show (1 : Nat) ≤ 20; decide)
    · refine hB tc_lossOfStep kc_lossOfStep [2859] 1000 _ _ _ _ _ ?_
      repeat' (first | exact fin | refine And.intro ?_ ?_ | (intro hh; first | exact absurd hh (by decide) | exact absurd rfl hh | (exfalso; omega) | skip) | refine Or.inl (uE th ?_) | fail)
      all_goals first | omega | (exact rfl) | (show (1 : Nat) ≤ 20; decide)
  have l2 : ∀ r z1, lQ z R r z1 → aPu r [] (fun st => B (none, c1 + 1, c2 + 6) z1 1451 [some (.inr (.inr (.inl (31, 0, 0)))), some (.inr (.inr (.inl (0, 0, 0)))), some (.inr (.inr (.inl (16, 0, 0)))), some (.inr (.inr (.inl (18, 0, 0)))), some (.inr (.inr (.inl (19, 0, 0)))), some (.inl i), none, none, none] st) := by
    intro r z1 hz1
    obtain ⟨rfl, q1, q2, q3⟩ := hz1
    have md := hs.mid q3
    have a1 : z1 (31, 0, 0) (i + 1) = x1 := by rw [md.2]; exact e1.symm
    have a2 : z1 (31, 0, 0) (i + 2) = x2 := by rw [md.2]; exact e2.symm
    have a3 : z1 (31, 0, 0) (i + 3) = x3 := by rw [md.2]; exact e3.symm
    have cm : mOp l g nX7_lossOfStep 19 [.inr (.inr (.inl (16, 0, 0))), .inl (z1 (31, 0, 0) (i + 1)), .inl (z1 (31, 0, 0) (i + 2)), .inl (z1 (31, 0, 0) (i + 3))] z1 R := by
      rw [a1]
      rw [a2]
      rw [a3]
      exact cm0 z1 md.1
    have l4 : ∀ r z2, (r = some (.inl R.2.1) ∧ (RelM z2 R.2.2 ∧ z2 (16, 0, 0) 9 = R.1) ∧ fM z1 z2) → aPu r [] (fun st => B (none, c1 + 1, c2 + 6) z2 1475 [some (.inr (.inr (.inl (31, 0, 0)))), some (.inr (.inr (.inl (0, 0, 0)))), some (.inr (.inr (.inl (16, 0, 0)))), some (.inr (.inr (.inl (18, 0, 0)))), some (.inr (.inr (.inl (19, 0, 0)))), some (.inl i), some (.inl R.1), none, none] st) := by
      intro r z2 hz2
      obtain ⟨rfl, ⟨p1, p2⟩, p3⟩ := hz2
      exact l3 z2 R.1 R.2.1 R.2.2 (hs.fin q3 q2 p1 p3 hIL.1 hIL.2) lt0 p2 (fun w => by rw [p3 (18, 0, 0) ⟨by decide, by decide⟩]; exact q1 w) lv.2
    refine hB tc_lossOfStep kc_lossOfStep [1475] 1000 _ _ _ _ _ ?_
    repeat' (first | exact Or.inl (uA cm l4) | refine And.intro ?_ ?_ | (intro hh; first | exact absurd hh (by decide) | exact absurd rfl hh | (exfalso; omega) | skip) | fail)
    all_goals first | omega | (exact rfl) | (show (1 : Nat) ≤ 20; decide)
  refine hB tc_lossOfStep kc_lossOfStep [1451] 1000 _ _ _ _ _ ?_
  repeat' (first | exact Or.inr (Or.inr ⟨1, 6, ⟨k1, k2⟩, uL ct l2⟩) | refine And.intro ?_ ?_ | (intro hh; first | exact absurd hh (by decide) | exact absurd rfl hh | (exfalso; omega) | skip) | fail)
  all_goals first | omega | (exact rfl) | (show (1 : Nat) ≤ 20; decide)
theorem wL_runs (hB : lBt l g Q X B) (h : lIn g S z A i c1 c2) (hN : lNx S B i c1 c2) : B (none, c1, c2) z 1508 [some (.inr (.inr (.inl (31, 0, 0)))), some (.inr (.inr (.inl (0, 0, 0)))), some (.inr (.inr (.inl (16, 0, 0)))), some (.inr (.inr (.inl (18, 0, 0)))), some (.inr (.inr (.inl (19, 0, 0)))), some (.inl i), none, none, none] [] := by
  obtain ⟨hs, hS, ⟨i0, i1⟩, k1, k2⟩ := h
  obtain ⟨⟨hC, hM⟩, ⟨hI, hL⟩, hz⟩ := id hs
  have hIL : InvW A ∧ InvL A := And.intro hI hL
  obtain ⟨v, ev⟩ : ∃ v : Int, v = wM A 2 := ⟨_, rfl⟩
  have hv : aIR v := by
    rw [ev]
    exact by have cc := hI.1.1.1.1.1; exact aIR_of (by omega) (by omega)
  have ct : aM1 l g nX6_runs 19 [.inr (.inr (.inl (0, 0, 0)))] z (fun r z' => r = some (.inl v) ∧ RelC z' A ∧ fC z z') := by
    rw [ev]
    exact (cT_runs (l := l) (g := g) (d := 19) (z := z) (A := A) (by decide) hC hI).1 rfl
  have l2 : ∀ r z1, (r = some (.inl v) ∧ RelC z1 A ∧ fC z z1) → aPu r [] (fun st => B (none, c1, c2) z1 1512 [some (.inr (.inr (.inl (31, 0, 0)))), some (.inr (.inr (.inl (0, 0, 0)))), some (.inr (.inr (.inl (16, 0, 0)))), some (.inr (.inr (.inl (18, 0, 0)))), some (.inr (.inr (.inl (19, 0, 0)))), some (.inl i), none, none, none] st) := by
    intro r z1 hz1
    obtain ⟨rfl, q2, q3⟩ := hz1
    have md := hs.mid q3.fL
    have cm : aM1 l g nX7_runs 19 [.inr (.inr (.inl (16, 0, 0)))] z1 (fun r z' => r = some (.inl v) ∧ (RelM z' A ∧ z' (16, 0, 0) 9 = 0) ∧ fM z1 z') := by
      rw [ev]
      exact cM_runs (by decide) md.1 hI
    have l3 : ∀ r z2, (r = some (.inl v) ∧ (RelM z2 A ∧ z2 (16, 0, 0) 9 = 0) ∧ fM z1 z2) → aPu r [.inl v] (fun st => B (none, c1, c2) z2 1516 [some (.inr (.inr (.inl (31, 0, 0)))), some (.inr (.inr (.inl (0, 0, 0)))), some (.inr (.inr (.inl (16, 0, 0)))), some (.inr (.inr (.inl (18, 0, 0)))), some (.inr (.inr (.inl (19, 0, 0)))), some (.inl i), none, none, none] st) := by
      intro r z2 hz2
      obtain ⟨rfl, ⟨p1, p2⟩, p3⟩ := hz2
      have fin := hN z2 A none none none c1 c2 (hs.fin q3.fL q2 p1 p3 hIL.1 hIL.2) (Nat.le_succ _) (Nat.le_add_right _ _)
      refine hB tc_runs kc_runs [2859] 1000 _ _ _ _ _ ?_
      repeat' (first | exact fin | refine And.intro ?_ ?_ | (intro hh; first | exact absurd hh (by decide) | exact absurd rfl hh | (exfalso; omega) | skip) | fail)
      all_goals first | exact hv.1 | exact hv.2
    refine hB tc_runs kc_runs [1516] 1000 _ _ _ _ _ ?_
    repeat' (first | exact Or.inl (uA cm l3) | refine And.intro ?_ ?_ | (intro hh; first | exact absurd hh (by decide) | exact absurd rfl hh | (exfalso; omega) | skip) | fail)
    all_goals first | omega | (exact rfl) | (show (1 : Nat) ≤ 20; decide)
  refine hB tc_runs kc_runs [1512] 1000 _ _ _ _ _ ?_
  repeat' (first | exact Or.inl (uA ct l2) | refine And.intro ?_ ?_ | (intro hh; first | exact absurd hh (by decide) | exact absurd rfl hh | (exfalso; omega) | skip) | fail)
  all_goals first | omega | (exact rfl) | (show (1 : Nat) ≤ 20; decide)
theorem wL_isComplete (hB : lBt l g Q X B) (h : lIn g S z A i c1 c2) (hN : lNx S B i c1 c2) : B (none, c1, c2) z 1521 [some (.inr (.inr (.inl (31, 0, 0)))), some (.inr (.inr (.inl (0, 0, 0)))), some (.inr (.inr (.inl (16, 0, 0)))), some (.inr (.inr (.inl (18, 0, 0)))), some (.inr (.inr (.inl (19, 0, 0)))), some (.inl i), none, none, none] [] := by
  obtain ⟨hs, hS, ⟨i0, i1⟩, k1, k2⟩ := h
  obtain ⟨⟨hC, hM⟩, ⟨hI, hL⟩, hz⟩ := id hs
  obtain ⟨x1, e1⟩ : ∃ x, x = z (31, 0, 0) (i + 1) := ⟨_, rfl⟩
  have h1 : aIR x1 := by rw [e1, hz]; exact hS _
  have lv := lV_isComplete (r := x1) hI
  have ct : lOp l g nL_isComplete 19 [.inr (.inr (.inl (0, 0, 0))), .inl (z (31, 0, 0) (i + 1)), .inr (.inr (.inl (18, 0, 0)))] z (lQ z (qComplete x1 A)) := by
    rw [← e1]
    exact lT_isComplete (by decide) (cT_isComplete h1 (by decide) hC hI) lv.1 lv.2
  have hIL : InvW (qComplete x1 A).2.2 ∧ InvL (qComplete x1 A).2.2 := lI_A qComplete_A hI hL
  have cm0 : ∀ z1, RelM z1 A → mOp l g nX7_isComplete 19 [.inr (.inr (.inl (16, 0, 0))), .inl x1] z1 (qComplete x1 A) := fun z1 md => cM_isComplete h1 (by decide) md hI
  obtain ⟨R, eR⟩ : ∃ R : aRes, R = (qComplete x1 A) := ⟨_, rfl⟩
  rw [← eR] at lv ct hIL
  simp only [← eR] at cm0
  clear eR
  have lt0 : 0 ≤ R.1 ∧ R.1 ≤ 3 := by have := lv.1; omega
  have l3 : ∀ (z2 : aM) (t : Int) (v : Int) (A2 : aAb), lS S z2 A2 → (0 ≤ t ∧ t ≤ 3) → z2 (16, 0, 0) 9 = t → (t = 0 → z2 (18, 0, 0) 0 = v) → (t = 0 → v = 0 ∨ v = 1) → B (none, c1 + 1, c2 + 6) z2 1544 [some (.inr (.inr (.inl (31, 0, 0)))), some (.inr (.inr (.inl (0, 0, 0)))), some (.inr (.inr (.inl (16, 0, 0)))), some (.inr (.inr (.inl (18, 0, 0)))), some (.inr (.inr (.inl (19, 0, 0)))), some (.inl i), some (.inl t), none, none] [.inl v] := by
    intro z2 t v A2 hs2 ht e9 e18 hv
    have fin := hN z2 A2 (some (.inl t)) (some (.inl v)) none (c1 + 1) (c2 + 6) hs2 (Nat.le_refl _) (Nat.le_refl _)
    have th := cM_thrown (l := l) (g := g) (d := 19) (z := z2)
    by_cases t0 : t = 0
    · have f18 := e18 t0
      rcases hv t0 with rfl | rfl
      · have ec : aCmp (z2 (18, 0, 0) 0) 0 = 0 := by rw [f18]; exact aCmp_rf 0
        refine hB tc_isComplete kc_isComplete [2859] 1000 _ _ _ _ _ ?_
        repeat' (first | exact fin | refine And.intro ?_ ?_ | (intro hh; first | exact absurd hh (by decide) | exact absurd rfl hh | (exfalso; omega) | skip) | refine Or.inl (uE th ?_) | fail)
        all_goals first | omega | (exact rfl) | (show (1 : Nat) ≤ 20; decide)
      · have ec : aCmp (z2 (18, 0, 0) 0) 1 = 0 := by rw [f18]; exact aCmp_rf 1
        refine hB tc_isComplete kc_isComplete [2859] 1000 _ _ _ _ _ ?_
        repeat' (first | exact fin | refine And.intro ?_ ?_ | (intro hh; first | exact absurd hh (by decide) | exact absurd rfl hh | (exfalso; omega) | skip) | refine Or.inl (uE th ?_) | fail)
        all_goals first | omega | (exact rfl) | (show (1 : Nat) ≤ 20; decide)
    · refine hB tc_isComplete kc_isComplete [2859] 1000 _ _ _ _ _ ?_
      repeat' (first | exact fin | refine And.intro ?_ ?_ | (intro hh; first | exact absurd hh (by decide) | exact absurd rfl hh | (exfalso; omega) | skip) | refine Or.inl (uE th ?_) | fail)
      all_goals first | omega | (exact rfl) | (show (1 : Nat) ≤ 20; decide)
  have l2 : ∀ r z1, lQ z R r z1 → aPu r [] (fun st => B (none, c1 + 1, c2 + 6) z1 1532 [some (.inr (.inr (.inl (31, 0, 0)))), some (.inr (.inr (.inl (0, 0, 0)))), some (.inr (.inr (.inl (16, 0, 0)))), some (.inr (.inr (.inl (18, 0, 0)))), some (.inr (.inr (.inl (19, 0, 0)))), some (.inl i), none, none, none] st) := by
    intro r z1 hz1
    obtain ⟨rfl, q1, q2, q3⟩ := hz1
    have md := hs.mid q3
    have a1 : z1 (31, 0, 0) (i + 1) = x1 := by rw [md.2]; exact e1.symm
    have cm : mOp l g nX7_isComplete 19 [.inr (.inr (.inl (16, 0, 0))), .inl (z1 (31, 0, 0) (i + 1))] z1 R := by
      rw [a1]
      exact cm0 z1 md.1
    have l4 : ∀ r z2, (r = some (.inl R.2.1) ∧ (RelM z2 R.2.2 ∧ z2 (16, 0, 0) 9 = R.1) ∧ fM z1 z2) → aPu r [] (fun st => B (none, c1 + 1, c2 + 6) z2 1544 [some (.inr (.inr (.inl (31, 0, 0)))), some (.inr (.inr (.inl (0, 0, 0)))), some (.inr (.inr (.inl (16, 0, 0)))), some (.inr (.inr (.inl (18, 0, 0)))), some (.inr (.inr (.inl (19, 0, 0)))), some (.inl i), some (.inl R.1), none, none] st) := by
      intro r z2 hz2
      obtain ⟨rfl, ⟨p1, p2⟩, p3⟩ := hz2
      exact l3 z2 R.1 R.2.1 R.2.2 (hs.fin q3 q2 p1 p3 hIL.1 hIL.2) lt0 p2 (fun w => by rw [p3 (18, 0, 0) ⟨by decide, by decide⟩]; exact q1 w) lv.2
    refine hB tc_isComplete kc_isComplete [1544] 1000 _ _ _ _ _ ?_
    repeat' (first | exact Or.inl (uA cm l4) | refine And.intro ?_ ?_ | (intro hh; first | exact absurd hh (by decide) | exact absurd rfl hh | (exfalso; omega) | skip) | fail)
    all_goals first | omega | (exact rfl) | (show (1 : Nat) ≤ 20; decide)
  refine hB tc_isComplete kc_isComplete [1532] 1000 _ _ _ _ _ ?_
  repeat' (first | exact Or.inr (Or.inr ⟨1, 6, ⟨k1, k2⟩, uL ct l2⟩) | refine And.intro ?_ ?_ | (intro hh; first | exact absurd hh (by decide) | exact absurd rfl hh | (exfalso; omega) | skip) | fail)
  all_goals first | omega | (exact rfl) | (show (1 : Nat) ≤ 20; decide)
end LC
