theorem dL_law_1139 : decode cL_law 1139 = .ok (.iconst 3, 1) := by decide +kernel
theorem dL_law_1140 : decode cL_law 1140 = .ok (.invokevirtual 42, 3) := by decide +kernel
theorem dL_law_1143 : decode cL_law 1143 = .ok (.istore 9, 2) := by decide +kernel
theorem dL_law_1145 : decode cL_law 1145 = .ok (.aload_n 1, 1) := by decide +kernel
theorem dL_law_1146 : decode cL_law 1146 = .ok (.iconst 4, 1) := by decide +kernel
theorem dL_law_1147 : decode cL_law 1147 = .ok (.invokevirtual 42, 3) := by decide +kernel
theorem dL_law_1150 : decode cL_law 1150 = .ok (.istore 10, 2) := by decide +kernel
theorem dL_law_1152 : decode cL_law 1152 = .ok (.aload_n 1, 1) := by decide +kernel
theorem dL_law_1153 : decode cL_law 1153 = .ok (.iconst 5, 1) := by decide +kernel
theorem dL_law_1154 : decode cL_law 1154 = .ok (.invokevirtual 42, 3) := by decide +kernel
theorem dL_law_1157 : decode cL_law 1157 = .ok (.istore 11, 2) := by decide +kernel
theorem dL_law_1159 : decode cL_law 1159 = .ok (.aload_n 1, 1) := by decide +kernel
theorem dL_law_1160 : decode cL_law 1160 = .ok (.iconst 1, 1) := by decide +kernel
theorem dL_law_1161 : decode cL_law 1161 = .ok (.invokevirtual 85, 3) := by decide +kernel
theorem dL_law_1164 : decode cL_law 1164 = .ok (.iload 7, 2) := by decide +kernel
theorem dL_law_1166 : decode cL_law 1166 = .ok (.if_icmp .eq 5, 3) := by decide +kernel
theorem dL_law_1169 : decode cL_law 1169 = .ok (.iconst 0, 1) := by decide +kernel
theorem dL_law_1170 : decode cL_law 1170 = .ok (.ireturn, 1) := by decide +kernel
theorem dL_law_1171 : decode cL_law 1171 = .ok (.aload_n 1, 1) := by decide +kernel
theorem dL_law_1172 : decode cL_law 1172 = .ok (.invokevirtual 104, 3) := by decide +kernel
theorem dL_law_1175 : decode cL_law 1175 = .ok (.istore 12, 2) := by decide +kernel
theorem dL_law_1177 : decode cL_law 1177 = .ok (.aload_n 1, 1) := by decide +kernel
theorem dL_law_1178 : decode cL_law 1178 = .ok (.invokevirtual 110, 3) := by decide +kernel
theorem dL_law_1181 : decode cL_law 1181 = .ok (.istore 13, 2) := by decide +kernel
theorem dL_law_1183 : decode cL_law 1183 = .ok (.aload_n 1, 1) := by decide +kernel
theorem dL_law_1184 : decode cL_law 1184 = .ok (.invokevirtual 101, 3) := by decide +kernel
theorem dL_law_1187 : decode cL_law 1187 = .ok (.istore 14, 2) := by decide +kernel
theorem dL_law_1189 : decode cL_law 1189 = .ok (.iload 13, 2) := by decide +kernel
theorem dL_law_1191 : decode cL_law 1191 = .ok (.ifCond .lt 53, 3) := by decide +kernel
theorem dL_law_1194 : decode cL_law 1194 = .ok (.iload 14, 2) := by decide +kernel
theorem dL_law_1196 : decode cL_law 1196 = .ok (.invokestatic 66, 3) := by decide +kernel
theorem dL_law_1199 : decode cL_law 1199 = .ok (.iload 13, 2) := by decide +kernel
theorem dL_law_1201 : decode cL_law 1201 = .ok (.if_icmp .ne 43, 3) := by decide +kernel
theorem dL_law_1204 : decode cL_law 1204 = .ok (.iload 14, 2) := by decide +kernel
theorem dL_law_1206 : decode cL_law 1206 = .ok (.iload 9, 2) := by decide +kernel
theorem dL_law_1208 : decode cL_law 1208 = .ok (.iconst (-1), 1) := by decide +kernel
theorem dL_law_1209 : decode cL_law 1209 = .ok (.ixor, 1) := by decide +kernel
theorem dL_law_1210 : decode cL_law 1210 = .ok (.iand, 1) := by decide +kernel
theorem dL_law_1211 : decode cL_law 1211 = .ok (.ifCond .ne 33, 3) := by decide +kernel
theorem dL_law_1214 : decode cL_law 1214 = .ok (.iload 13, 2) := by decide +kernel
theorem dL_law_1216 : decode cL_law 1216 = .ok (.ifCond .ne 7, 3) := by decide +kernel
theorem dL_law_1219 : decode cL_law 1219 = .ok (.iconst 1, 1) := by decide +kernel
theorem dL_law_1220 : decode cL_law 1220 = .ok (.goto 4, 3) := by decide +kernel
theorem dL_law_1223 : decode cL_law 1223 = .ok (.iconst 0, 1) := by decide +kernel
theorem dL_law_1224 : decode cL_law 1224 = .ok (.iload 12, 2) := by decide +kernel
theorem dL_law_1226 : decode cL_law 1226 = .ok (.ifCond .ne 7, 3) := by decide +kernel
theorem dL_law_1229 : decode cL_law 1229 = .ok (.iconst 1, 1) := by decide +kernel
theorem dL_law_1230 : decode cL_law 1230 = .ok (.goto 4, 3) := by decide +kernel
theorem dL_law_1233 : decode cL_law 1233 = .ok (.iconst 0, 1) := by decide +kernel
theorem dL_law_1234 : decode cL_law 1234 = .ok (.if_icmp .ne 10, 3) := by decide +kernel
theorem dL_law_1237 : decode cL_law 1237 = .ok (.iload 13, 2) := by decide +kernel
theorem dL_law_1239 : decode cL_law 1239 = .ok (.iload 12, 2) := by decide +kernel
theorem dL_law_1241 : decode cL_law 1241 = .ok (.if_icmp .le 5, 3) := by decide +kernel
theorem dL_law_1244 : decode cL_law 1244 = .ok (.iconst 0, 1) := by decide +kernel
theorem dL_law_1245 : decode cL_law 1245 = .ok (.ireturn, 1) := by decide +kernel
theorem dL_law_1246 : decode cL_law 1246 = .ok (.iload 7, 2) := by decide +kernel
theorem dL_law_1248 : decode cL_law 1248 = .ok (.iload 13, 2) := by decide +kernel
theorem dL_law_1250 : decode cL_law 1250 = .ok (.iadd, 1) := by decide +kernel
theorem dL_law_1251 : decode cL_law 1251 = .ok (.bipush 41, 2) := by decide +kernel
theorem dL_law_1253 : decode cL_law 1253 = .ok (.if_icmp .ge 67, 3) := by decide +kernel
theorem dL_law_1256 : decode cL_law 1256 = .ok (.iconst 0, 1) := by decide +kernel
theorem dL_law_1257 : decode cL_law 1257 = .ok (.istore 15, 2) := by decide +kernel
theorem dL_law_1259 : decode cL_law 1259 = .ok (.iload 15, 2) := by decide +kernel
theorem dL_law_1261 : decode cL_law 1261 = .ok (.iload 4, 2) := by decide +kernel
theorem dL_law_1263 : decode cL_law 1263 = .ok (.if_icmp .ge 31, 3) := by decide +kernel
theorem dL_law_1266 : decode cL_law 1266 = .ok (.iload 14, 2) := by decide +kernel
theorem dL_law_1268 : decode cL_law 1268 = .ok (.iload 15, 2) := by decide +kernel
theorem dL_law_1270 : decode cL_law 1270 = .ok (.ishr, 1) := by decide +kernel
theorem dL_law_1271 : decode cL_law 1271 = .ok (.iconst 1, 1) := by decide +kernel
theorem dL_law_1272 : decode cL_law 1272 = .ok (.iand, 1) := by decide +kernel
theorem dL_law_1273 : decode cL_law 1273 = .ok (.iconst 1, 1) := by decide +kernel
theorem dL_law_1274 : decode cL_law 1274 = .ok (.if_icmp .ne 14, 3) := by decide +kernel
theorem dL_law_1277 : decode cL_law 1277 = .ok (.aload_n 1, 1) := by decide +kernel
theorem dL_law_1278 : decode cL_law 1278 = .ok (.iload 15, 2) := by decide +kernel
theorem dL_law_1280 : decode cL_law 1280 = .ok (.invokevirtual 69, 3) := by decide +kernel
theorem dL_law_1283 : decode cL_law 1283 = .ok (.ifCond .ge 5, 3) := by decide +kernel
theorem dL_law_1286 : decode cL_law 1286 = .ok (.iconst 0, 1) := by decide +kernel
theorem dL_law_1287 : decode cL_law 1287 = .ok (.ireturn, 1) := by decide +kernel
theorem dL_law_1288 : decode cL_law 1288 = .ok (.iinc 15 1, 3) := by decide +kernel
theorem dL_law_1291 : decode cL_law 1291 = .ok (.goto (-32), 3) := by decide +kernel
theorem dL_law_1294 : decode cL_law 1294 = .ok (.aload_n 1, 1) := by decide +kernel
theorem dL_law_1295 : decode cL_law 1295 = .ok (.invokevirtual 104, 3) := by decide +kernel
theorem dL_law_1298 : decode cL_law 1298 = .ok (.ifCond .ne 20, 3) := by decide +kernel
theorem dL_law_1301 : decode cL_law 1301 = .ok (.aload_n 1, 1) := by decide +kernel
theorem dL_law_1302 : decode cL_law 1302 = .ok (.invokevirtual 110, 3) := by decide +kernel
theorem dL_law_1305 : decode cL_law 1305 = .ok (.ifCond .ne 13, 3) := by decide +kernel
theorem dL_law_1308 : decode cL_law 1308 = .ok (.aload_n 1, 1) := by decide +kernel
theorem dL_law_1309 : decode cL_law 1309 = .ok (.iconst 1, 1) := by decide +kernel
theorem dL_law_1310 : decode cL_law 1310 = .ok (.invokevirtual 113, 3) := by decide +kernel
theorem dL_law_1313 : decode cL_law 1313 = .ok (.iload 7, 2) := by decide +kernel
theorem dL_law_1315 : decode cL_law 1315 = .ok (.if_icmp .eq 5, 3) := by decide +kernel
theorem dL_law_1318 : decode cL_law 1318 = .ok (.iconst 0, 1) := by decide +kernel
theorem dL_law_1319 : decode cL_law 1319 = .ok (.ireturn, 1) := by decide +kernel
theorem dL_law_1320 : decode cL_law 1320 = .ok (.aload_n 1, 1) := by decide +kernel
theorem dL_law_1321 : decode cL_law 1321 = .ok (.iconst 5, 1) := by decide +kernel
theorem dL_law_1322 : decode cL_law 1322 = .ok (.invokevirtual 115, 3) := by decide +kernel
theorem dL_law_1325 : decode cL_law 1325 = .ok (.istore 15, 2) := by decide +kernel
theorem dL_law_1327 : decode cL_law 1327 = .ok (.aload_n 1, 1) := by decide +kernel
theorem dL_law_1328 : decode cL_law 1328 = .ok (.invokevirtual 101, 3) := by decide +kernel
theorem dL_law_1331 : decode cL_law 1331 = .ok (.istore 16, 2) := by decide +kernel
theorem dL_law_1333 : decode cL_law 1333 = .ok (.iconst 0, 1) := by decide +kernel
theorem dL_law_1334 : decode cL_law 1334 = .ok (.istore 17, 2) := by decide +kernel
theorem dL_law_1336 : decode cL_law 1336 = .ok (.iconst 0, 1) := by decide +kernel
theorem dL_law_1337 : decode cL_law 1337 = .ok (.istore 18, 2) := by decide +kernel
theorem dL_law_1339 : decode cL_law 1339 = .ok (.iload 15, 2) := by decide +kernel
theorem dL_law_1341 : decode cL_law 1341 = .ok (.ifCond .lt 31, 3) := by decide +kernel
theorem dL_law_1344 : decode cL_law 1344 = .ok (.iload 16, 2) := by decide +kernel
theorem dL_law_1346 : decode cL_law 1346 = .ok (.iload 9, 2) := by decide +kernel
theorem dL_law_1348 : decode cL_law 1348 = .ok (.iload 10, 2) := by decide +kernel
theorem dL_law_1350 : decode cL_law 1350 = .ok (.ior, 1) := by decide +kernel
theorem dL_law_1351 : decode cL_law 1351 = .ok (.iconst (-1), 1) := by decide +kernel
theorem dL_law_1352 : decode cL_law 1352 = .ok (.ixor, 1) := by decide +kernel
theorem dL_law_1353 : decode cL_law 1353 = .ok (.iand, 1) := by decide +kernel
theorem dL_law_1354 : decode cL_law 1354 = .ok (.ifCond .ne 18, 3) := by decide +kernel
theorem dL_law_1357 : decode cL_law 1357 = .ok (.aload_n 1, 1) := by decide +kernel
theorem dL_law_1358 : decode cL_law 1358 = .ok (.iconst 5, 1) := by decide +kernel
theorem dL_law_1359 : decode cL_law 1359 = .ok (.iload 16, 2) := by decide +kernel
theorem dL_law_1361 : decode cL_law 1361 = .ok (.invokestatic 66, 3) := by decide +kernel
theorem dL_law_1364 : decode cL_law 1364 = .ok (.invokevirtual 118, 3) := by decide +kernel
theorem dL_law_1367 : decode cL_law 1367 = .ok (.bipush (-3), 2) := by decide +kernel
theorem dL_law_1369 : decode cL_law 1369 = .ok (.if_icmp .eq 5, 3) := by decide +kernel
theorem dL_law_1372 : decode cL_law 1372 = .ok (.iconst 0, 1) := by decide +kernel
theorem dL_law_1373 : decode cL_law 1373 = .ok (.ireturn, 1) := by decide +kernel
theorem dL_law_1374 : decode cL_law 1374 = .ok (.iconst 0, 1) := by decide +kernel
theorem dL_law_1375 : decode cL_law 1375 = .ok (.istore 19, 2) := by decide +kernel
theorem dL_law_1377 : decode cL_law 1377 = .ok (.iload 19, 2) := by decide +kernel
theorem dL_law_1379 : decode cL_law 1379 = .ok (.iload 16, 2) := by decide +kernel
theorem dL_law_1381 : decode cL_law 1381 = .ok (.invokestatic 66, 3) := by decide +kernel
theorem dL_law_1384 : decode cL_law 1384 = .ok (.if_icmp .ge 104, 3) := by decide +kernel
theorem dL_law_1387 : decode cL_law 1387 = .ok (.aload_n 1, 1) := by decide +kernel
theorem dL_law_1388 : decode cL_law 1388 = .ok (.iconst 5, 1) := by decide +kernel
theorem dL_law_1389 : decode cL_law 1389 = .ok (.iload 19, 2) := by decide +kernel
theorem dL_law_1391 : decode cL_law 1391 = .ok (.invokevirtual 118, 3) := by decide +kernel
theorem dL_law_1394 : decode cL_law 1394 = .ok (.iconst 1, 1) := by decide +kernel
theorem dL_law_1395 : decode cL_law 1395 = .ok (.if_icmp .eq 5, 3) := by decide +kernel
theorem dL_law_1398 : decode cL_law 1398 = .ok (.iconst 0, 1) := by decide +kernel
theorem dL_law_1399 : decode cL_law 1399 = .ok (.ireturn, 1) := by decide +kernel
theorem dL_law_1400 : decode cL_law 1400 = .ok (.aload_n 1, 1) := by decide +kernel
theorem dL_law_1401 : decode cL_law 1401 = .ok (.invokevirtual 101, 3) := by decide +kernel
theorem dL_law_1404 : decode cL_law 1404 = .ok (.istore 20, 2) := by decide +kernel
theorem dL_law_1406 : decode cL_law 1406 = .ok (.aload_n 1, 1) := by decide +kernel
theorem dL_law_1407 : decode cL_law 1407 = .ok (.aload_n 1, 1) := by decide +kernel
theorem dL_law_1408 : decode cL_law 1408 = .ok (.iload 20, 2) := by decide +kernel
theorem dL_law_1410 : decode cL_law 1410 = .ok (.iconst 2, 1) := by decide +kernel
theorem dL_law_1411 : decode cL_law 1411 = .ok (.invokevirtual 88, 3) := by decide +kernel
theorem dL_law_1414 : decode cL_law 1414 = .ok (.invokestatic 91, 3) := by decide +kernel
theorem dL_law_1417 : decode cL_law 1417 = .ok (.istore 21, 2) := by decide +kernel
theorem dL_law_1419 : decode cL_law 1419 = .ok (.iload 20, 2) := by decide +kernel
theorem dL_law_1421 : decode cL_law 1421 = .ok (.ifCond .lt 36, 3) := by decide +kernel
theorem dL_law_1424 : decode cL_law 1424 = .ok (.iload 20, 2) := by decide +kernel
theorem dL_law_1426 : decode cL_law 1426 = .ok (.iload 4, 2) := by decide +kernel
theorem dL_law_1428 : decode cL_law 1428 = .ok (.if_icmp .ge 29, 3) := by decide +kernel
theorem dL_law_1431 : decode cL_law 1431 = .ok (.iload 16, 2) := by decide +kernel
theorem dL_law_1433 : decode cL_law 1433 = .ok (.iload 20, 2) := by decide +kernel
theorem dL_law_1435 : decode cL_law 1435 = .ok (.ishr, 1) := by decide +kernel
theorem dL_law_1436 : decode cL_law 1436 = .ok (.iconst 1, 1) := by decide +kernel
theorem dL_law_1437 : decode cL_law 1437 = .ok (.iand, 1) := by decide +kernel
theorem dL_law_1438 : decode cL_law 1438 = .ok (.iconst 1, 1) := by decide +kernel
theorem dL_law_1439 : decode cL_law 1439 = .ok (.if_icmp .ne 18, 3) := by decide +kernel
theorem dL_law_1442 : decode cL_law 1442 = .ok (.iload 21, 2) := by decide +kernel
theorem dL_law_1444 : decode cL_law 1444 = .ok (.iload 18, 2) := by decide +kernel
theorem dL_law_1446 : decode cL_law 1446 = .ok (.if_icmp .le 11, 3) := by decide +kernel
theorem dL_law_1449 : decode cL_law 1449 = .ok (.iload 21, 2) := by decide +kernel
theorem dL_law_1451 : decode cL_law 1451 = .ok (.iload 18, 2) := by decide +kernel
theorem dL_law_1453 : decode cL_law 1453 = .ok (.iand, 1) := by decide +kernel
theorem dL_law_1454 : decode cL_law 1454 = .ok (.ifCond .eq 5, 3) := by decide +kernel
theorem dL_law_1457 : decode cL_law 1457 = .ok (.iconst 0, 1) := by decide +kernel
theorem dL_law_1458 : decode cL_law 1458 = .ok (.ireturn, 1) := by decide +kernel
theorem dL_law_1459 : decode cL_law 1459 = .ok (.iload 18, 2) := by decide +kernel
theorem dL_law_1461 : decode cL_law 1461 = .ok (.iload 21, 2) := by decide +kernel
theorem dL_law_1463 : decode cL_law 1463 = .ok (.ior, 1) := by decide +kernel
theorem dL_law_1464 : decode cL_law 1464 = .ok (.istore 18, 2) := by decide +kernel
theorem dL_law_1466 : decode cL_law 1466 = .ok (.iload 17, 2) := by decide +kernel
theorem dL_law_1468 : decode cL_law 1468 = .ok (.aload_n 1, 1) := by decide +kernel
theorem dL_law_1469 : decode cL_law 1469 = .ok (.aload_n 1, 1) := by decide +kernel
theorem dL_law_1470 : decode cL_law 1470 = .ok (.iload 20, 2) := by decide +kernel
theorem dL_law_1472 : decode cL_law 1472 = .ok (.iconst 5, 1) := by decide +kernel
theorem dL_law_1473 : decode cL_law 1473 = .ok (.invokevirtual 88, 3) := by decide +kernel
theorem dL_law_1476 : decode cL_law 1476 = .ok (.invokestatic 91, 3) := by decide +kernel
theorem dL_law_1479 : decode cL_law 1479 = .ok (.iadd, 1) := by decide +kernel
theorem dL_law_1480 : decode cL_law 1480 = .ok (.istore 17, 2) := by decide +kernel
theorem dL_law_1482 : decode cL_law 1482 = .ok (.iinc 19 1, 3) := by decide +kernel
theorem dL_law_1485 : decode cL_law 1485 = .ok (.goto (-108), 3) := by decide +kernel
theorem dL_law_1488 : decode cL_law 1488 = .ok (.iload 17, 2) := by decide +kernel
theorem dL_law_1490 : decode cL_law 1490 = .ok (.iload 15, 2) := by decide +kernel
theorem dL_law_1492 : decode cL_law 1492 = .ok (.if_icmp .eq 5, 3) := by decide +kernel
theorem dL_law_1495 : decode cL_law 1495 = .ok (.iconst 0, 1) := by decide +kernel
theorem dL_law_1496 : decode cL_law 1496 = .ok (.ireturn, 1) := by decide +kernel
theorem dL_law_1497 : decode cL_law 1497 = .ok (.iconst 0, 1) := by decide +kernel
theorem dL_law_1498 : decode cL_law 1498 = .ok (.istore 19, 2) := by decide +kernel
theorem dL_law_1500 : decode cL_law 1500 = .ok (.iload 19, 2) := by decide +kernel
theorem dL_law_1502 : decode cL_law 1502 = .ok (.iload 4, 2) := by decide +kernel
theorem dL_law_1504 : decode cL_law 1504 = .ok (.if_icmp .ge 120, 3) := by decide +kernel
theorem dL_law_1507 : decode cL_law 1507 = .ok (.iload 9, 2) := by decide +kernel
theorem dL_law_1509 : decode cL_law 1509 = .ok (.iload 19, 2) := by decide +kernel
theorem dL_law_1511 : decode cL_law 1511 = .ok (.ishr, 1) := by decide +kernel
theorem dL_law_1512 : decode cL_law 1512 = .ok (.iconst 1, 1) := by decide +kernel
theorem dL_law_1513 : decode cL_law 1513 = .ok (.iand, 1) := by decide +kernel
theorem dL_law_1514 : decode cL_law 1514 = .ok (.iconst 1, 1) := by decide +kernel
theorem dL_law_1515 : decode cL_law 1515 = .ok (.if_icmp .eq 14, 3) := by decide +kernel
theorem dL_law_1518 : decode cL_law 1518 = .ok (.iload 10, 2) := by decide +kernel
theorem dL_law_1520 : decode cL_law 1520 = .ok (.iload 19, 2) := by decide +kernel
theorem dL_law_1522 : decode cL_law 1522 = .ok (.ishr, 1) := by decide +kernel
theorem dL_law_1523 : decode cL_law 1523 = .ok (.iconst 1, 1) := by decide +kernel
theorem dL_law_1524 : decode cL_law 1524 = .ok (.iand, 1) := by decide +kernel
theorem dL_law_1525 : decode cL_law 1525 = .ok (.iconst 1, 1) := by decide +kernel
theorem dL_law_1526 : decode cL_law 1526 = .ok (.if_icmp .ne 7, 3) := by decide +kernel
theorem dL_law_1529 : decode cL_law 1529 = .ok (.iconst 1, 1) := by decide +kernel
theorem dL_law_1530 : decode cL_law 1530 = .ok (.goto 4, 3) := by decide +kernel
theorem dL_law_1533 : decode cL_law 1533 = .ok (.iconst 0, 1) := by decide +kernel
theorem dL_law_1534 : decode cL_law 1534 = .ok (.istore 20, 2) := by decide +kernel
theorem dL_law_1536 : decode cL_law 1536 = .ok (.aload_n 1, 1) := by decide +kernel
theorem dL_law_1537 : decode cL_law 1537 = .ok (.aload_n 1, 1) := by decide +kernel
theorem dL_law_1538 : decode cL_law 1538 = .ok (.iload 19, 2) := by decide +kernel
theorem dL_law_1540 : decode cL_law 1540 = .ok (.iconst 2, 1) := by decide +kernel
theorem dL_law_1541 : decode cL_law 1541 = .ok (.invokevirtual 88, 3) := by decide +kernel
theorem dL_law_1544 : decode cL_law 1544 = .ok (.invokestatic 91, 3) := by decide +kernel
theorem dL_law_1547 : decode cL_law 1547 = .ok (.istore 21, 2) := by decide +kernel
theorem dL_law_1549 : decode cL_law 1549 = .ok (.aload_n 1, 1) := by decide +kernel
theorem dL_law_1550 : decode cL_law 1550 = .ok (.aload_n 1, 1) := by decide +kernel
theorem dL_law_1551 : decode cL_law 1551 = .ok (.iload 19, 2) := by decide +kernel
theorem dL_law_1553 : decode cL_law 1553 = .ok (.iconst 5, 1) := by decide +kernel
theorem dL_law_1554 : decode cL_law 1554 = .ok (.invokevirtual 88, 3) := by decide +kernel
theorem dL_law_1557 : decode cL_law 1557 = .ok (.invokestatic 91, 3) := by decide +kernel
theorem dL_law_1560 : decode cL_law 1560 = .ok (.istore 22, 2) := by decide +kernel
theorem dL_law_1562 : decode cL_law 1562 = .ok (.iload 20, 2) := by decide +kernel
theorem dL_law_1564 : decode cL_law 1564 = .ok (.ifCond .eq 35, 3) := by decide +kernel
theorem dL_law_1567 : decode cL_law 1567 = .ok (.iload 22, 2) := by decide +kernel
theorem dL_law_1569 : decode cL_law 1569 = .ok (.iload 15, 2) := by decide +kernel
theorem dL_law_1571 : decode cL_law 1571 = .ok (.if_icmp .gt 26, 3) := by decide +kernel
theorem dL_law_1574 : decode cL_law 1574 = .ok (.iload 16, 2) := by decide +kernel
theorem dL_law_1576 : decode cL_law 1576 = .ok (.iload 19, 2) := by decide +kernel
theorem dL_law_1578 : decode cL_law 1578 = .ok (.ishr, 1) := by decide +kernel
theorem dL_law_1579 : decode cL_law 1579 = .ok (.iconst 1, 1) := by decide +kernel
theorem dL_law_1580 : decode cL_law 1580 = .ok (.iand, 1) := by decide +kernel
theorem dL_law_1581 : decode cL_law 1581 = .ok (.ifCond .ne 18, 3) := by decide +kernel
theorem dL_law_1584 : decode cL_law 1584 = .ok (.iload 21, 2) := by decide +kernel
theorem dL_law_1586 : decode cL_law 1586 = .ok (.iload 18, 2) := by decide +kernel
theorem dL_law_1588 : decode cL_law 1588 = .ok (.iand, 1) := by decide +kernel
theorem dL_law_1589 : decode cL_law 1589 = .ok (.ifCond .ne 10, 3) := by decide +kernel
theorem dL_law_1592 : decode cL_law 1592 = .ok (.iload 22, 2) := by decide +kernel
theorem dL_law_1594 : decode cL_law 1594 = .ok (.ifCond .le 5, 3) := by decide +kernel
theorem dL_law_1597 : decode cL_law 1597 = .ok (.iconst 0, 1) := by decide +kernel
theorem dL_law_1598 : decode cL_law 1598 = .ok (.ireturn, 1) := by decide +kernel
theorem dL_law_1599 : decode cL_law 1599 = .ok (.iload 16, 2) := by decide +kernel
theorem dL_law_1601 : decode cL_law 1601 = .ok (.iload 19, 2) := by decide +kernel
theorem dL_law_1603 : decode cL_law 1603 = .ok (.ishr, 1) := by decide +kernel
theorem dL_law_1604 : decode cL_law 1604 = .ok (.iconst 1, 1) := by decide +kernel
theorem dL_law_1605 : decode cL_law 1605 = .ok (.iand, 1) := by decide +kernel
theorem dL_law_1606 : decode cL_law 1606 = .ok (.iconst 1, 1) := by decide +kernel
theorem dL_law_1607 : decode cL_law 1607 = .ok (.if_icmp .ne 11, 3) := by decide +kernel
theorem dL_law_1610 : decode cL_law 1610 = .ok (.iload 22, 2) := by decide +kernel
theorem dL_law_1612 : decode cL_law 1612 = .ok (.iconst 1, 1) := by decide +kernel
theorem dL_law_1613 : decode cL_law 1613 = .ok (.if_icmp .ge 5, 3) := by decide +kernel
theorem dL_law_1616 : decode cL_law 1616 = .ok (.iconst 0, 1) := by decide +kernel
theorem dL_law_1617 : decode cL_law 1617 = .ok (.ireturn, 1) := by decide +kernel
theorem dL_law_1618 : decode cL_law 1618 = .ok (.iinc 19 1, 3) := by decide +kernel
theorem dL_law_1621 : decode cL_law 1621 = .ok (.goto (-121), 3) := by decide +kernel
theorem dL_law_1624 : decode cL_law 1624 = .ok (.iconst (-1), 1) := by decide +kernel
theorem dL_law_1625 : decode cL_law 1625 = .ok (.istore 19, 2) := by decide +kernel
theorem dL_law_1627 : decode cL_law 1627 = .ok (.iconst 0, 1) := by decide +kernel
theorem dL_law_1628 : decode cL_law 1628 = .ok (.istore 20, 2) := by decide +kernel
theorem dL_law_1630 : decode cL_law 1630 = .ok (.iload 20, 2) := by decide +kernel
theorem dL_law_1632 : decode cL_law 1632 = .ok (.bipush 21, 2) := by decide +kernel
theorem dL_law_1634 : decode cL_law 1634 = .ok (.if_icmp .ge 187, 3) := by decide +kernel
theorem dL_law_1637 : decode cL_law 1637 = .ok (.aload_n 1, 1) := by decide +kernel
theorem dL_law_1638 : decode cL_law 1638 = .ok (.iload 20, 2) := by decide +kernel
theorem dL_law_1640 : decode cL_law 1640 = .ok (.invokevirtual 121, 3) := by decide +kernel
theorem dL_law_1643 : decode cL_law 1643 = .ok (.istore 21, 2) := by decide +kernel
theorem dL_law_1645 : decode cL_law 1645 = .ok (.aload_n 1, 1) := by decide +kernel
theorem dL_law_1646 : decode cL_law 1646 = .ok (.invokevirtual 101, 3) := by decide +kernel
theorem dL_law_1649 : decode cL_law 1649 = .ok (.istore 22, 2) := by decide +kernel
theorem dL_law_1651 : decode cL_law 1651 = .ok (.iconst 0, 1) := by decide +kernel
theorem dL_law_1652 : decode cL_law 1652 = .ok (.istore 23, 2) := by decide +kernel
theorem dL_law_1654 : decode cL_law 1654 = .ok (.aload_n 1, 1) := by decide +kernel
theorem dL_law_1655 : decode cL_law 1655 = .ok (.iload 22, 2) := by decide +kernel
theorem dL_law_1657 : decode cL_law 1657 = .ok (.invokevirtual 124, 3) := by decide +kernel
theorem dL_law_1660 : decode cL_law 1660 = .ok (.istore 24, 2) := by decide +kernel
theorem dL_law_1662 : decode cL_law 1662 = .ok (.iload 24, 2) := by decide +kernel
theorem dL_law_1664 : decode cL_law 1664 = .ok (.ifCond .lt 55, 3) := by decide +kernel
theorem dL_law_1667 : decode cL_law 1667 = .ok (.iload 24, 2) := by decide +kernel
theorem dL_law_1669 : decode cL_law 1669 = .ok (.iload 20, 2) := by decide +kernel
theorem dL_law_1671 : decode cL_law 1671 = .ok (.if_icmp .gt 48, 3) := by decide +kernel
theorem dL_law_1674 : decode cL_law 1674 = .ok (.aload_n 1, 1) := by decide +kernel
theorem dL_law_1675 : decode cL_law 1675 = .ok (.invokevirtual 101, 3) := by decide +kernel
theorem dL_law_1678 : decode cL_law 1678 = .ok (.ifCond .lt 41, 3) := by decide +kernel
theorem dL_law_1681 : decode cL_law 1681 = .ok (.aload_n 1, 1) := by decide +kernel
theorem dL_law_1682 : decode cL_law 1682 = .ok (.invokevirtual 101, 3) := by decide +kernel
theorem dL_law_1685 : decode cL_law 1685 = .ok (.bipush 9, 2) := by decide +kernel
theorem dL_law_1687 : decode cL_law 1687 = .ok (.if_icmp .gt 32, 3) := by decide +kernel
theorem dL_law_1690 : decode cL_law 1690 = .ok (.iload 22, 2) := by decide +kernel
theorem dL_law_1692 : decode cL_law 1692 = .ok (.iload 10, 2) := by decide +kernel
theorem dL_law_1694 : decode cL_law 1694 = .ok (.iconst (-1), 1) := by decide +kernel
theorem dL_law_1695 : decode cL_law 1695 = .ok (.ixor, 1) := by decide +kernel
theorem dL_law_1696 : decode cL_law 1696 = .ok (.iand, 1) := by decide +kernel
theorem dL_law_1697 : decode cL_law 1697 = .ok (.ifCond .ne 22, 3) := by decide +kernel
theorem dL_law_1700 : decode cL_law 1700 = .ok (.iload 21, 2) := by decide +kernel
theorem dL_law_1702 : decode cL_law 1702 = .ok (.iload 19, 2) := by decide +kernel
theorem dL_law_1704 : decode cL_law 1704 = .ok (.if_icmp .lt 15, 3) := by decide +kernel
theorem dL_law_1707 : decode cL_law 1707 = .ok (.iload 21, 2) := by decide +kernel
