/-! THE LAW: its cases, by program (wip/gen/gen5.py) -/
theorem dL_law_20 : decode cL_law 20 = .ok (.iconst 0, 1) := by decide +kernel
theorem dL_law_21 : decode cL_law 21 = .ok (.istore 4, 2) := by decide +kernel
theorem dL_law_23 : decode cL_law 23 = .ok (.iload 4, 2) := by decide +kernel
theorem dL_law_25 : decode cL_law 25 = .ok (.aload_n 0, 1) := by decide +kernel
theorem dL_law_26 : decode cL_law 26 = .ok (.arraylength, 1) := by decide +kernel
theorem dL_law_27 : decode cL_law 27 = .ok (.bipush 6, 2) := by decide +kernel
theorem dL_law_29 : decode cL_law 29 = .ok (.isub, 1) := by decide +kernel
theorem dL_law_30 : decode cL_law 30 = .ok (.if_icmp .gt 1776, 3) := by decide +kernel
theorem dL_law_33 : decode cL_law 33 = .ok (.aload_n 0, 1) := by decide +kernel
theorem dL_law_34 : decode cL_law 34 = .ok (.iload 4, 2) := by decide +kernel
theorem dL_law_36 : decode cL_law 36 = .ok (.iaload, 1) := by decide +kernel
theorem dL_law_37 : decode cL_law 37 = .ok (.bipush 63, 2) := by decide +kernel
theorem dL_law_39 : decode cL_law 39 = .ok (.iand, 1) := by decide +kernel
theorem dL_law_40 : decode cL_law 40 = .ok (.tableswitch 1760 0 36 #[164, 213, 250, 287, 324, 397, 446, 471, 508, 545, 582, 619, 656, 681, 706, 755, 780, 817, 878, 915, 964, 977, 1057, 1125, 1162, 1187, 1224, 1273, 1298, 1323, 1403, 1428, 1489, 1514, 1595, 1662, 1735], 164) := by decide +kernel
theorem dL_law_1264 : decode cL_law 1264 = .ok (.aload_n 1, 1) := by decide +kernel
theorem dL_law_1265 : decode cL_law 1265 = .ok (.aload_n 0, 1) := by decide +kernel
theorem dL_law_1266 : decode cL_law 1266 = .ok (.iload 4, 2) := by decide +kernel
theorem dL_law_1268 : decode cL_law 1268 = .ok (.iconst 1, 1) := by decide +kernel
theorem dL_law_1269 : decode cL_law 1269 = .ok (.iadd, 1) := by decide +kernel
theorem dL_law_1270 : decode cL_law 1270 = .ok (.iaload, 1) := by decide +kernel
theorem dL_law_1271 : decode cL_law 1271 = .ok (.aload_n 0, 1) := by decide +kernel
theorem dL_law_1272 : decode cL_law 1272 = .ok (.iload 4, 2) := by decide +kernel
theorem dL_law_1274 : decode cL_law 1274 = .ok (.iconst 2, 1) := by decide +kernel
theorem dL_law_1275 : decode cL_law 1275 = .ok (.iadd, 1) := by decide +kernel
theorem dL_law_1276 : decode cL_law 1276 = .ok (.iaload, 1) := by decide +kernel
theorem dL_law_1277 : decode cL_law 1277 = .ok (.aload_n 0, 1) := by decide +kernel
theorem dL_law_1278 : decode cL_law 1278 = .ok (.iload 4, 2) := by decide +kernel
theorem dL_law_1280 : decode cL_law 1280 = .ok (.iconst 3, 1) := by decide +kernel
theorem dL_law_1281 : decode cL_law 1281 = .ok (.iadd, 1) := by decide +kernel
theorem dL_law_1282 : decode cL_law 1282 = .ok (.iaload, 1) := by decide +kernel
theorem dL_law_1283 : decode cL_law 1283 = .ok (.invokevirtual 145, 3) := by decide +kernel
theorem dL_law_1286 : decode cL_law 1286 = .ok (.aload_n 2, 1) := by decide +kernel
theorem dL_law_1287 : decode cL_law 1287 = .ok (.aload_n 0, 1) := by decide +kernel
theorem dL_law_1288 : decode cL_law 1288 = .ok (.iload 4, 2) := by decide +kernel
theorem dL_law_1290 : decode cL_law 1290 = .ok (.iconst 1, 1) := by decide +kernel
theorem dL_law_1291 : decode cL_law 1291 = .ok (.iadd, 1) := by decide +kernel
theorem dL_law_1292 : decode cL_law 1292 = .ok (.iaload, 1) := by decide +kernel
theorem dL_law_1293 : decode cL_law 1293 = .ok (.aload_n 0, 1) := by decide +kernel
theorem dL_law_1294 : decode cL_law 1294 = .ok (.iload 4, 2) := by decide +kernel
theorem dL_law_1296 : decode cL_law 1296 = .ok (.iconst 2, 1) := by decide +kernel
theorem dL_law_1297 : decode cL_law 1297 = .ok (.iadd, 1) := by decide +kernel
theorem dL_law_1298 : decode cL_law 1298 = .ok (.iaload, 1) := by decide +kernel
theorem dL_law_1299 : decode cL_law 1299 = .ok (.aload_n 0, 1) := by decide +kernel
theorem dL_law_1300 : decode cL_law 1300 = .ok (.iload 4, 2) := by decide +kernel
theorem dL_law_1302 : decode cL_law 1302 = .ok (.iconst 3, 1) := by decide +kernel
theorem dL_law_1303 : decode cL_law 1303 = .ok (.iadd, 1) := by decide +kernel
theorem dL_law_1304 : decode cL_law 1304 = .ok (.iaload, 1) := by decide +kernel
theorem dL_law_1305 : decode cL_law 1305 = .ok (.invokevirtual 148, 3) := by decide +kernel
theorem dL_law_1308 : decode cL_law 1308 = .ok (.if_icmp .eq 492, 3) := by decide +kernel
theorem dL_law_1313 : decode cL_law 1313 = .ok (.aload_n 1, 1) := by decide +kernel
theorem dL_law_1314 : decode cL_law 1314 = .ok (.aload_n 0, 1) := by decide +kernel
theorem dL_law_1315 : decode cL_law 1315 = .ok (.iload 4, 2) := by decide +kernel
theorem dL_law_1317 : decode cL_law 1317 = .ok (.iconst 1, 1) := by decide +kernel
theorem dL_law_1318 : decode cL_law 1318 = .ok (.iadd, 1) := by decide +kernel
theorem dL_law_1319 : decode cL_law 1319 = .ok (.iaload, 1) := by decide +kernel
theorem dL_law_1320 : decode cL_law 1320 = .ok (.invokevirtual 149, 3) := by decide +kernel
theorem dL_law_1323 : decode cL_law 1323 = .ok (.aload_n 2, 1) := by decide +kernel
theorem dL_law_1324 : decode cL_law 1324 = .ok (.aload_n 0, 1) := by decide +kernel
theorem dL_law_1325 : decode cL_law 1325 = .ok (.iload 4, 2) := by decide +kernel
theorem dL_law_1327 : decode cL_law 1327 = .ok (.iconst 1, 1) := by decide +kernel
theorem dL_law_1328 : decode cL_law 1328 = .ok (.iadd, 1) := by decide +kernel
theorem dL_law_1329 : decode cL_law 1329 = .ok (.iaload, 1) := by decide +kernel
theorem dL_law_1330 : decode cL_law 1330 = .ok (.invokevirtual 152, 3) := by decide +kernel
theorem dL_law_1333 : decode cL_law 1333 = .ok (.if_icmp .eq 467, 3) := by decide +kernel
theorem dL_law_1336 : decode cL_law 1336 = .ok (.iconst 0, 1) := by decide +kernel
theorem dL_law_1337 : decode cL_law 1337 = .ok (.ireturn, 1) := by decide +kernel
theorem dL_law_1338 : decode cL_law 1338 = .ok (.aload_n 1, 1) := by decide +kernel
theorem dL_law_1339 : decode cL_law 1339 = .ok (.aload_n 0, 1) := by decide +kernel
theorem dL_law_1340 : decode cL_law 1340 = .ok (.iload 4, 2) := by decide +kernel
theorem dL_law_1342 : decode cL_law 1342 = .ok (.iconst 1, 1) := by decide +kernel
theorem dL_law_1343 : decode cL_law 1343 = .ok (.iadd, 1) := by decide +kernel
theorem dL_law_1344 : decode cL_law 1344 = .ok (.iaload, 1) := by decide +kernel
theorem dL_law_1345 : decode cL_law 1345 = .ok (.invokevirtual 153, 3) := by decide +kernel
theorem dL_law_1348 : decode cL_law 1348 = .ok (.aload_n 2, 1) := by decide +kernel
theorem dL_law_1349 : decode cL_law 1349 = .ok (.aload_n 0, 1) := by decide +kernel
theorem dL_law_1350 : decode cL_law 1350 = .ok (.iload 4, 2) := by decide +kernel
theorem dL_law_1352 : decode cL_law 1352 = .ok (.iconst 1, 1) := by decide +kernel
theorem dL_law_1353 : decode cL_law 1353 = .ok (.iadd, 1) := by decide +kernel
theorem dL_law_1354 : decode cL_law 1354 = .ok (.iaload, 1) := by decide +kernel
theorem dL_law_1355 : decode cL_law 1355 = .ok (.invokevirtual 156, 3) := by decide +kernel
theorem dL_law_1358 : decode cL_law 1358 = .ok (.if_icmp .eq 442, 3) := by decide +kernel
theorem dL_law_1363 : decode cL_law 1363 = .ok (.aload_n 1, 1) := by decide +kernel
theorem dL_law_1364 : decode cL_law 1364 = .ok (.aload_n 0, 1) := by decide +kernel
theorem dL_law_1365 : decode cL_law 1365 = .ok (.iload 4, 2) := by decide +kernel
theorem dL_law_1367 : decode cL_law 1367 = .ok (.iconst 1, 1) := by decide +kernel
theorem dL_law_1368 : decode cL_law 1368 = .ok (.iadd, 1) := by decide +kernel
theorem dL_law_1369 : decode cL_law 1369 = .ok (.iaload, 1) := by decide +kernel
theorem dL_law_1370 : decode cL_law 1370 = .ok (.aload_n 0, 1) := by decide +kernel
theorem dL_law_1371 : decode cL_law 1371 = .ok (.iload 4, 2) := by decide +kernel
theorem dL_law_1373 : decode cL_law 1373 = .ok (.iconst 2, 1) := by decide +kernel
theorem dL_law_1374 : decode cL_law 1374 = .ok (.iadd, 1) := by decide +kernel
theorem dL_law_1375 : decode cL_law 1375 = .ok (.iaload, 1) := by decide +kernel
theorem dL_law_1376 : decode cL_law 1376 = .ok (.aload_n 0, 1) := by decide +kernel
theorem dL_law_1377 : decode cL_law 1377 = .ok (.iload 4, 2) := by decide +kernel
theorem dL_law_1379 : decode cL_law 1379 = .ok (.iconst 3, 1) := by decide +kernel
theorem dL_law_1380 : decode cL_law 1380 = .ok (.iadd, 1) := by decide +kernel
theorem dL_law_1381 : decode cL_law 1381 = .ok (.iaload, 1) := by decide +kernel
theorem dL_law_1382 : decode cL_law 1382 = .ok (.aload_n 3, 1) := by decide +kernel
theorem dL_law_1383 : decode cL_law 1383 = .ok (.invokestatic 157, 3) := by decide +kernel
theorem dL_law_1386 : decode cL_law 1386 = .ok (.istore 5, 2) := by decide +kernel
theorem dL_law_1388 : decode cL_law 1388 = .ok (.aload_n 2, 1) := by decide +kernel
theorem dL_law_1389 : decode cL_law 1389 = .ok (.aload_n 0, 1) := by decide +kernel
theorem dL_law_1390 : decode cL_law 1390 = .ok (.iload 4, 2) := by decide +kernel
theorem dL_law_1392 : decode cL_law 1392 = .ok (.iconst 1, 1) := by decide +kernel
theorem dL_law_1393 : decode cL_law 1393 = .ok (.iadd, 1) := by decide +kernel
theorem dL_law_1394 : decode cL_law 1394 = .ok (.iaload, 1) := by decide +kernel
theorem dL_law_1395 : decode cL_law 1395 = .ok (.aload_n 0, 1) := by decide +kernel
theorem dL_law_1396 : decode cL_law 1396 = .ok (.iload 4, 2) := by decide +kernel
theorem dL_law_1398 : decode cL_law 1398 = .ok (.iconst 2, 1) := by decide +kernel
theorem dL_law_1399 : decode cL_law 1399 = .ok (.iadd, 1) := by decide +kernel
theorem dL_law_1400 : decode cL_law 1400 = .ok (.iaload, 1) := by decide +kernel
theorem dL_law_1401 : decode cL_law 1401 = .ok (.aload_n 0, 1) := by decide +kernel
theorem dL_law_1402 : decode cL_law 1402 = .ok (.iload 4, 2) := by decide +kernel
theorem dL_law_1404 : decode cL_law 1404 = .ok (.iconst 3, 1) := by decide +kernel
theorem dL_law_1405 : decode cL_law 1405 = .ok (.iadd, 1) := by decide +kernel
theorem dL_law_1406 : decode cL_law 1406 = .ok (.iaload, 1) := by decide +kernel
theorem dL_law_1407 : decode cL_law 1407 = .ok (.invokevirtual 159, 3) := by decide +kernel
theorem dL_law_1410 : decode cL_law 1410 = .ok (.istore 6, 2) := by decide +kernel
theorem dL_law_1412 : decode cL_law 1412 = .ok (.aload_n 2, 1) := by decide +kernel
theorem dL_law_1413 : decode cL_law 1413 = .ok (.invokevirtual 126, 3) := by decide +kernel
theorem dL_law_1416 : decode cL_law 1416 = .ok (.iload 5, 2) := by decide +kernel
theorem dL_law_1418 : decode cL_law 1418 = .ok (.if_icmp .eq 5, 3) := by decide +kernel
theorem dL_law_1423 : decode cL_law 1423 = .ok (.iload 5, 2) := by decide +kernel
theorem dL_law_1425 : decode cL_law 1425 = .ok (.ifCond .ne 15, 3) := by decide +kernel
theorem dL_law_1428 : decode cL_law 1428 = .ok (.aload_n 3, 1) := by decide +kernel
theorem dL_law_1429 : decode cL_law 1429 = .ok (.iconst 0, 1) := by decide +kernel
theorem dL_law_1430 : decode cL_law 1430 = .ok (.laload, 1) := by decide +kernel
theorem dL_law_1431 : decode cL_law 1431 = .ok (.iload 6, 2) := by decide +kernel
theorem dL_law_1433 : decode cL_law 1433 = .ok (.i2l, 1) := by decide +kernel
theorem dL_law_1434 : decode cL_law 1434 = .ok (.lcmp, 1) := by decide +kernel
theorem dL_law_1435 : decode cL_law 1435 = .ok (.ifCond .eq 5, 3) := by decide +kernel
theorem dL_law_1440 : decode cL_law 1440 = .ok (.goto 360, 3) := by decide +kernel
theorem dL_law_1443 : decode cL_law 1443 = .ok (.aload_n 1, 1) := by decide +kernel
theorem dL_law_1444 : decode cL_law 1444 = .ok (.aload_n 0, 1) := by decide +kernel
theorem dL_law_1445 : decode cL_law 1445 = .ok (.iload 4, 2) := by decide +kernel
theorem dL_law_1447 : decode cL_law 1447 = .ok (.iconst 1, 1) := by decide +kernel
theorem dL_law_1448 : decode cL_law 1448 = .ok (.iadd, 1) := by decide +kernel
theorem dL_law_1449 : decode cL_law 1449 = .ok (.iaload, 1) := by decide +kernel
theorem dL_law_1450 : decode cL_law 1450 = .ok (.invokevirtual 160, 3) := by decide +kernel
theorem dL_law_1453 : decode cL_law 1453 = .ok (.aload_n 2, 1) := by decide +kernel
theorem dL_law_1454 : decode cL_law 1454 = .ok (.aload_n 0, 1) := by decide +kernel
theorem dL_law_1455 : decode cL_law 1455 = .ok (.iload 4, 2) := by decide +kernel
theorem dL_law_1457 : decode cL_law 1457 = .ok (.iconst 1, 1) := by decide +kernel
theorem dL_law_1458 : decode cL_law 1458 = .ok (.iadd, 1) := by decide +kernel
theorem dL_law_1459 : decode cL_law 1459 = .ok (.iaload, 1) := by decide +kernel
theorem dL_law_1460 : decode cL_law 1460 = .ok (.invokevirtual 163, 3) := by decide +kernel
theorem dL_law_1463 : decode cL_law 1463 = .ok (.if_icmp .eq 337, 3) := by decide +kernel
theorem dL_law_1468 : decode cL_law 1468 = .ok (.aload_n 1, 1) := by decide +kernel
theorem dL_law_1469 : decode cL_law 1469 = .ok (.aload_n 0, 1) := by decide +kernel
theorem dL_law_1470 : decode cL_law 1470 = .ok (.iload 4, 2) := by decide +kernel
theorem dL_law_1472 : decode cL_law 1472 = .ok (.iconst 1, 1) := by decide +kernel
theorem dL_law_1473 : decode cL_law 1473 = .ok (.iadd, 1) := by decide +kernel
theorem dL_law_1474 : decode cL_law 1474 = .ok (.iaload, 1) := by decide +kernel
theorem dL_law_1475 : decode cL_law 1475 = .ok (.aload_n 0, 1) := by decide +kernel
theorem dL_law_1476 : decode cL_law 1476 = .ok (.iload 4, 2) := by decide +kernel
theorem dL_law_1478 : decode cL_law 1478 = .ok (.iconst 2, 1) := by decide +kernel
theorem dL_law_1479 : decode cL_law 1479 = .ok (.iadd, 1) := by decide +kernel
theorem dL_law_1480 : decode cL_law 1480 = .ok (.iaload, 1) := by decide +kernel
theorem dL_law_1481 : decode cL_law 1481 = .ok (.aload_n 0, 1) := by decide +kernel
theorem dL_law_1482 : decode cL_law 1482 = .ok (.iload 4, 2) := by decide +kernel
theorem dL_law_1484 : decode cL_law 1484 = .ok (.iconst 3, 1) := by decide +kernel
theorem dL_law_1485 : decode cL_law 1485 = .ok (.iadd, 1) := by decide +kernel
theorem dL_law_1486 : decode cL_law 1486 = .ok (.iaload, 1) := by decide +kernel
theorem dL_law_1487 : decode cL_law 1487 = .ok (.aload_n 0, 1) := by decide +kernel
theorem dL_law_1488 : decode cL_law 1488 = .ok (.iload 4, 2) := by decide +kernel
theorem dL_law_1490 : decode cL_law 1490 = .ok (.iconst 4, 1) := by decide +kernel
theorem dL_law_1491 : decode cL_law 1491 = .ok (.iadd, 1) := by decide +kernel
theorem dL_law_1492 : decode cL_law 1492 = .ok (.iaload, 1) := by decide +kernel
theorem dL_law_1493 : decode cL_law 1493 = .ok (.invokevirtual 164, 3) := by decide +kernel
theorem dL_law_1496 : decode cL_law 1496 = .ok (.aload_n 2, 1) := by decide +kernel
theorem dL_law_1497 : decode cL_law 1497 = .ok (.aload_n 0, 1) := by decide +kernel
theorem dL_law_1498 : decode cL_law 1498 = .ok (.iload 4, 2) := by decide +kernel
theorem dL_law_1500 : decode cL_law 1500 = .ok (.iconst 1, 1) := by decide +kernel
theorem dL_law_1501 : decode cL_law 1501 = .ok (.iadd, 1) := by decide +kernel
theorem dL_law_1502 : decode cL_law 1502 = .ok (.iaload, 1) := by decide +kernel
theorem dL_law_1503 : decode cL_law 1503 = .ok (.aload_n 0, 1) := by decide +kernel
theorem dL_law_1504 : decode cL_law 1504 = .ok (.iload 4, 2) := by decide +kernel
theorem dL_law_1506 : decode cL_law 1506 = .ok (.iconst 2, 1) := by decide +kernel
theorem dL_law_1507 : decode cL_law 1507 = .ok (.iadd, 1) := by decide +kernel
theorem dL_law_1508 : decode cL_law 1508 = .ok (.iaload, 1) := by decide +kernel
theorem dL_law_1509 : decode cL_law 1509 = .ok (.aload_n 0, 1) := by decide +kernel
theorem dL_law_1510 : decode cL_law 1510 = .ok (.iload 4, 2) := by decide +kernel
theorem dL_law_1512 : decode cL_law 1512 = .ok (.iconst 3, 1) := by decide +kernel
theorem dL_law_1513 : decode cL_law 1513 = .ok (.iadd, 1) := by decide +kernel
theorem dL_law_1514 : decode cL_law 1514 = .ok (.iaload, 1) := by decide +kernel
theorem dL_law_1515 : decode cL_law 1515 = .ok (.aload_n 0, 1) := by decide +kernel
theorem dL_law_1516 : decode cL_law 1516 = .ok (.iload 4, 2) := by decide +kernel
theorem dL_law_1518 : decode cL_law 1518 = .ok (.iconst 4, 1) := by decide +kernel
theorem dL_law_1519 : decode cL_law 1519 = .ok (.iadd, 1) := by decide +kernel
theorem dL_law_1520 : decode cL_law 1520 = .ok (.iaload, 1) := by decide +kernel
theorem dL_law_1521 : decode cL_law 1521 = .ok (.invokevirtual 167, 3) := by decide +kernel
theorem dL_law_1524 : decode cL_law 1524 = .ok (.if_icmp .eq 276, 3) := by decide +kernel
theorem dL_law_1529 : decode cL_law 1529 = .ok (.aload_n 1, 1) := by decide +kernel
theorem dL_law_1530 : decode cL_law 1530 = .ok (.aload_n 0, 1) := by decide +kernel
theorem dL_law_1531 : decode cL_law 1531 = .ok (.iload 4, 2) := by decide +kernel
theorem dL_law_1533 : decode cL_law 1533 = .ok (.iconst 1, 1) := by decide +kernel
theorem dL_law_1534 : decode cL_law 1534 = .ok (.iadd, 1) := by decide +kernel
theorem dL_law_1535 : decode cL_law 1535 = .ok (.iaload, 1) := by decide +kernel
theorem dL_law_1536 : decode cL_law 1536 = .ok (.invokevirtual 168, 3) := by decide +kernel
theorem dL_law_1539 : decode cL_law 1539 = .ok (.aload_n 2, 1) := by decide +kernel
theorem dL_law_1540 : decode cL_law 1540 = .ok (.aload_n 0, 1) := by decide +kernel
theorem dL_law_1541 : decode cL_law 1541 = .ok (.iload 4, 2) := by decide +kernel
theorem dL_law_1543 : decode cL_law 1543 = .ok (.iconst 1, 1) := by decide +kernel
theorem dL_law_1544 : decode cL_law 1544 = .ok (.iadd, 1) := by decide +kernel
theorem dL_law_1545 : decode cL_law 1545 = .ok (.iaload, 1) := by decide +kernel
theorem dL_law_1546 : decode cL_law 1546 = .ok (.invokevirtual 171, 3) := by decide +kernel
theorem dL_law_1549 : decode cL_law 1549 = .ok (.if_icmp .eq 251, 3) := by decide +kernel
theorem dL_law_1554 : decode cL_law 1554 = .ok (.aload_n 1, 1) := by decide +kernel
theorem dL_law_1555 : decode cL_law 1555 = .ok (.aload_n 0, 1) := by decide +kernel
theorem dL_law_1556 : decode cL_law 1556 = .ok (.iload 4, 2) := by decide +kernel
theorem dL_law_1558 : decode cL_law 1558 = .ok (.iconst 1, 1) := by decide +kernel
theorem dL_law_1559 : decode cL_law 1559 = .ok (.iadd, 1) := by decide +kernel
theorem dL_law_1560 : decode cL_law 1560 = .ok (.iaload, 1) := by decide +kernel
theorem dL_law_1561 : decode cL_law 1561 = .ok (.aload_n 0, 1) := by decide +kernel
theorem dL_law_1562 : decode cL_law 1562 = .ok (.iload 4, 2) := by decide +kernel
theorem dL_law_1564 : decode cL_law 1564 = .ok (.iconst 2, 1) := by decide +kernel
theorem dL_law_1565 : decode cL_law 1565 = .ok (.iadd, 1) := by decide +kernel
theorem dL_law_1566 : decode cL_law 1566 = .ok (.iaload, 1) := by decide +kernel
theorem dL_law_1567 : decode cL_law 1567 = .ok (.aload_n 0, 1) := by decide +kernel
theorem dL_law_1568 : decode cL_law 1568 = .ok (.iload 4, 2) := by decide +kernel
theorem dL_law_1570 : decode cL_law 1570 = .ok (.iconst 3, 1) := by decide +kernel
theorem dL_law_1571 : decode cL_law 1571 = .ok (.iadd, 1) := by decide +kernel
theorem dL_law_1572 : decode cL_law 1572 = .ok (.iaload, 1) := by decide +kernel
theorem dL_law_1573 : decode cL_law 1573 = .ok (.i2l, 1) := by decide +kernel
theorem dL_law_1574 : decode cL_law 1574 = .ok (.bipush 32, 2) := by decide +kernel
theorem dL_law_1576 : decode cL_law 1576 = .ok (.lshl, 1) := by decide +kernel
theorem dL_law_1577 : decode cL_law 1577 = .ok (.aload_n 0, 1) := by decide +kernel
theorem dL_law_1578 : decode cL_law 1578 = .ok (.iload 4, 2) := by decide +kernel
theorem dL_law_1580 : decode cL_law 1580 = .ok (.iconst 4, 1) := by decide +kernel
theorem dL_law_1581 : decode cL_law 1581 = .ok (.iadd, 1) := by decide +kernel
theorem dL_law_1582 : decode cL_law 1582 = .ok (.iaload, 1) := by decide +kernel
theorem dL_law_1583 : decode cL_law 1583 = .ok (.i2l, 1) := by decide +kernel
theorem dL_law_1584 : decode cL_law 1584 = .ok (.ldc2_w 172, 3) := by decide +kernel
theorem dL_law_1587 : decode cL_law 1587 = .ok (.land, 1) := by decide +kernel
theorem dL_law_1588 : decode cL_law 1588 = .ok (.lor, 1) := by decide +kernel
theorem dL_law_1589 : decode cL_law 1589 = .ok (.invokevirtual 174, 3) := by decide +kernel
theorem dL_law_1592 : decode cL_law 1592 = .ok (.aload_n 2, 1) := by decide +kernel
theorem dL_law_1593 : decode cL_law 1593 = .ok (.aload_n 0, 1) := by decide +kernel
theorem dL_law_1594 : decode cL_law 1594 = .ok (.iload 4, 2) := by decide +kernel
theorem dL_law_1596 : decode cL_law 1596 = .ok (.iconst 1, 1) := by decide +kernel
theorem dL_law_1597 : decode cL_law 1597 = .ok (.iadd, 1) := by decide +kernel
theorem dL_law_1598 : decode cL_law 1598 = .ok (.iaload, 1) := by decide +kernel
theorem dL_law_1599 : decode cL_law 1599 = .ok (.aload_n 0, 1) := by decide +kernel
theorem dL_law_1600 : decode cL_law 1600 = .ok (.iload 4, 2) := by decide +kernel
theorem dL_law_1602 : decode cL_law 1602 = .ok (.iconst 2, 1) := by decide +kernel
theorem dL_law_1603 : decode cL_law 1603 = .ok (.iadd, 1) := by decide +kernel
theorem dL_law_1604 : decode cL_law 1604 = .ok (.iaload, 1) := by decide +kernel
theorem dL_law_1605 : decode cL_law 1605 = .ok (.aload_n 0, 1) := by decide +kernel
theorem dL_law_1606 : decode cL_law 1606 = .ok (.iload 4, 2) := by decide +kernel
theorem dL_law_1608 : decode cL_law 1608 = .ok (.iconst 3, 1) := by decide +kernel
theorem dL_law_1609 : decode cL_law 1609 = .ok (.iadd, 1) := by decide +kernel
theorem dL_law_1610 : decode cL_law 1610 = .ok (.iaload, 1) := by decide +kernel
theorem dL_law_1611 : decode cL_law 1611 = .ok (.i2l, 1) := by decide +kernel
theorem dL_law_1612 : decode cL_law 1612 = .ok (.bipush 32, 2) := by decide +kernel
theorem dL_law_1614 : decode cL_law 1614 = .ok (.lshl, 1) := by decide +kernel
theorem dL_law_1615 : decode cL_law 1615 = .ok (.aload_n 0, 1) := by decide +kernel
theorem dL_law_1616 : decode cL_law 1616 = .ok (.iload 4, 2) := by decide +kernel
theorem dL_law_1618 : decode cL_law 1618 = .ok (.iconst 4, 1) := by decide +kernel
theorem dL_law_1619 : decode cL_law 1619 = .ok (.iadd, 1) := by decide +kernel
theorem dL_law_1620 : decode cL_law 1620 = .ok (.iaload, 1) := by decide +kernel
theorem dL_law_1621 : decode cL_law 1621 = .ok (.i2l, 1) := by decide +kernel
theorem dL_law_1622 : decode cL_law 1622 = .ok (.ldc2_w 172, 3) := by decide +kernel
theorem dL_law_1625 : decode cL_law 1625 = .ok (.land, 1) := by decide +kernel
theorem dL_law_1626 : decode cL_law 1626 = .ok (.lor, 1) := by decide +kernel
theorem dL_law_1627 : decode cL_law 1627 = .ok (.invokevirtual 178, 3) := by decide +kernel
theorem dL_law_1630 : decode cL_law 1630 = .ok (.if_icmp .eq 170, 3) := by decide +kernel
theorem dL_law_1635 : decode cL_law 1635 = .ok (.aload_n 1, 1) := by decide +kernel
theorem dL_law_1636 : decode cL_law 1636 = .ok (.aload_n 0, 1) := by decide +kernel
theorem dL_law_1637 : decode cL_law 1637 = .ok (.iload 4, 2) := by decide +kernel
theorem dL_law_1639 : decode cL_law 1639 = .ok (.iconst 1, 1) := by decide +kernel
theorem dL_law_1640 : decode cL_law 1640 = .ok (.iadd, 1) := by decide +kernel
theorem dL_law_1641 : decode cL_law 1641 = .ok (.iaload, 1) := by decide +kernel
theorem dL_law_1642 : decode cL_law 1642 = .ok (.aload_n 0, 1) := by decide +kernel
theorem dL_law_1643 : decode cL_law 1643 = .ok (.iload 4, 2) := by decide +kernel
theorem dL_law_1645 : decode cL_law 1645 = .ok (.iconst 2, 1) := by decide +kernel
theorem dL_law_1646 : decode cL_law 1646 = .ok (.iadd, 1) := by decide +kernel
theorem dL_law_1647 : decode cL_law 1647 = .ok (.iaload, 1) := by decide +kernel
theorem dL_law_1648 : decode cL_law 1648 = .ok (.aload_n 3, 1) := by decide +kernel
theorem dL_law_1649 : decode cL_law 1649 = .ok (.invokestatic 179, 3) := by decide +kernel
theorem dL_law_1652 : decode cL_law 1652 = .ok (.istore 5, 2) := by decide +kernel
theorem dL_law_1654 : decode cL_law 1654 = .ok (.aload_n 2, 1) := by decide +kernel
theorem dL_law_1655 : decode cL_law 1655 = .ok (.aload_n 0, 1) := by decide +kernel
theorem dL_law_1656 : decode cL_law 1656 = .ok (.iload 4, 2) := by decide +kernel
theorem dL_law_1658 : decode cL_law 1658 = .ok (.iconst 1, 1) := by decide +kernel
theorem dL_law_1659 : decode cL_law 1659 = .ok (.iadd, 1) := by decide +kernel
theorem dL_law_1660 : decode cL_law 1660 = .ok (.iaload, 1) := by decide +kernel
theorem dL_law_1661 : decode cL_law 1661 = .ok (.aload_n 0, 1) := by decide +kernel
theorem dL_law_1662 : decode cL_law 1662 = .ok (.iload 4, 2) := by decide +kernel
theorem dL_law_1664 : decode cL_law 1664 = .ok (.iconst 2, 1) := by decide +kernel
theorem dL_law_1665 : decode cL_law 1665 = .ok (.iadd, 1) := by decide +kernel
theorem dL_law_1666 : decode cL_law 1666 = .ok (.iaload, 1) := by decide +kernel
theorem dL_law_1667 : decode cL_law 1667 = .ok (.invokevirtual 181, 3) := by decide +kernel
theorem dL_law_1670 : decode cL_law 1670 = .ok (.lstore 6, 2) := by decide +kernel
theorem dL_law_1672 : decode cL_law 1672 = .ok (.aload_n 2, 1) := by decide +kernel
theorem dL_law_1673 : decode cL_law 1673 = .ok (.invokevirtual 126, 3) := by decide +kernel
theorem dL_law_1676 : decode cL_law 1676 = .ok (.iload 5, 2) := by decide +kernel
theorem dL_law_1678 : decode cL_law 1678 = .ok (.if_icmp .eq 5, 3) := by decide +kernel
theorem dL_law_1683 : decode cL_law 1683 = .ok (.iload 5, 2) := by decide +kernel
theorem dL_law_1685 : decode cL_law 1685 = .ok (.ifCond .ne 14, 3) := by decide +kernel
theorem dL_law_1688 : decode cL_law 1688 = .ok (.aload_n 3, 1) := by decide +kernel
theorem dL_law_1689 : decode cL_law 1689 = .ok (.iconst 0, 1) := by decide +kernel
theorem dL_law_1690 : decode cL_law 1690 = .ok (.laload, 1) := by decide +kernel
theorem dL_law_1691 : decode cL_law 1691 = .ok (.lload 6, 2) := by decide +kernel
theorem dL_law_1693 : decode cL_law 1693 = .ok (.lcmp, 1) := by decide +kernel
theorem dL_law_1694 : decode cL_law 1694 = .ok (.ifCond .eq 5, 3) := by decide +kernel
theorem dL_law_1699 : decode cL_law 1699 = .ok (.goto 101, 3) := by decide +kernel
theorem dL_law_1702 : decode cL_law 1702 = .ok (.aload_n 1, 1) := by decide +kernel
theorem dL_law_1703 : decode cL_law 1703 = .ok (.aload_n 0, 1) := by decide +kernel
theorem dL_law_1704 : decode cL_law 1704 = .ok (.iload 4, 2) := by decide +kernel
theorem dL_law_1706 : decode cL_law 1706 = .ok (.iconst 1, 1) := by decide +kernel
theorem dL_law_1707 : decode cL_law 1707 = .ok (.iadd, 1) := by decide +kernel
theorem dL_law_1708 : decode cL_law 1708 = .ok (.iaload, 1) := by decide +kernel
theorem dL_law_1709 : decode cL_law 1709 = .ok (.aload_n 0, 1) := by decide +kernel
theorem dL_law_1710 : decode cL_law 1710 = .ok (.iload 4, 2) := by decide +kernel
theorem dL_law_1712 : decode cL_law 1712 = .ok (.iconst 2, 1) := by decide +kernel
theorem dL_law_1713 : decode cL_law 1713 = .ok (.iadd, 1) := by decide +kernel
theorem dL_law_1714 : decode cL_law 1714 = .ok (.iaload, 1) := by decide +kernel
theorem dL_law_1715 : decode cL_law 1715 = .ok (.aload_n 0, 1) := by decide +kernel
theorem dL_law_1716 : decode cL_law 1716 = .ok (.iload 4, 2) := by decide +kernel
theorem dL_law_1718 : decode cL_law 1718 = .ok (.iconst 3, 1) := by decide +kernel
theorem dL_law_1719 : decode cL_law 1719 = .ok (.iadd, 1) := by decide +kernel
theorem dL_law_1720 : decode cL_law 1720 = .ok (.iaload, 1) := by decide +kernel
theorem dL_law_1721 : decode cL_law 1721 = .ok (.aload_n 0, 1) := by decide +kernel
theorem dL_law_1722 : decode cL_law 1722 = .ok (.iload 4, 2) := by decide +kernel
theorem dL_law_1724 : decode cL_law 1724 = .ok (.iconst 4, 1) := by decide +kernel
theorem dL_law_1725 : decode cL_law 1725 = .ok (.iadd, 1) := by decide +kernel
theorem dL_law_1726 : decode cL_law 1726 = .ok (.iaload, 1) := by decide +kernel
theorem dL_law_1727 : decode cL_law 1727 = .ok (.aload_n 0, 1) := by decide +kernel
theorem dL_law_1728 : decode cL_law 1728 = .ok (.iload 4, 2) := by decide +kernel
theorem dL_law_1730 : decode cL_law 1730 = .ok (.iconst 5, 1) := by decide +kernel
theorem dL_law_1731 : decode cL_law 1731 = .ok (.iadd, 1) := by decide +kernel
theorem dL_law_1732 : decode cL_law 1732 = .ok (.iaload, 1) := by decide +kernel
theorem dL_law_1733 : decode cL_law 1733 = .ok (.invokevirtual 182, 3) := by decide +kernel
theorem dL_law_1736 : decode cL_law 1736 = .ok (.aload_n 2, 1) := by decide +kernel
theorem dL_law_1737 : decode cL_law 1737 = .ok (.aload_n 0, 1) := by decide +kernel
theorem dL_law_1738 : decode cL_law 1738 = .ok (.iload 4, 2) := by decide +kernel
theorem dL_law_1740 : decode cL_law 1740 = .ok (.iconst 1, 1) := by decide +kernel
theorem dL_law_1741 : decode cL_law 1741 = .ok (.iadd, 1) := by decide +kernel
theorem dL_law_1742 : decode cL_law 1742 = .ok (.iaload, 1) := by decide +kernel
theorem dL_law_1743 : decode cL_law 1743 = .ok (.aload_n 0, 1) := by decide +kernel
theorem dL_law_1744 : decode cL_law 1744 = .ok (.iload 4, 2) := by decide +kernel
theorem dL_law_1746 : decode cL_law 1746 = .ok (.iconst 2, 1) := by decide +kernel
theorem dL_law_1747 : decode cL_law 1747 = .ok (.iadd, 1) := by decide +kernel
theorem dL_law_1748 : decode cL_law 1748 = .ok (.iaload, 1) := by decide +kernel
theorem dL_law_1749 : decode cL_law 1749 = .ok (.aload_n 0, 1) := by decide +kernel
theorem dL_law_1750 : decode cL_law 1750 = .ok (.iload 4, 2) := by decide +kernel
theorem dL_law_1752 : decode cL_law 1752 = .ok (.iconst 3, 1) := by decide +kernel
theorem dL_law_1753 : decode cL_law 1753 = .ok (.iadd, 1) := by decide +kernel
theorem dL_law_1754 : decode cL_law 1754 = .ok (.iaload, 1) := by decide +kernel
theorem dL_law_1755 : decode cL_law 1755 = .ok (.aload_n 0, 1) := by decide +kernel
theorem dL_law_1756 : decode cL_law 1756 = .ok (.iload 4, 2) := by decide +kernel
theorem dL_law_1758 : decode cL_law 1758 = .ok (.iconst 4, 1) := by decide +kernel
theorem dL_law_1759 : decode cL_law 1759 = .ok (.iadd, 1) := by decide +kernel
theorem dL_law_1760 : decode cL_law 1760 = .ok (.iaload, 1) := by decide +kernel
theorem dL_law_1761 : decode cL_law 1761 = .ok (.aload_n 0, 1) := by decide +kernel
theorem dL_law_1762 : decode cL_law 1762 = .ok (.iload 4, 2) := by decide +kernel
theorem dL_law_1764 : decode cL_law 1764 = .ok (.iconst 5, 1) := by decide +kernel
theorem dL_law_1765 : decode cL_law 1765 = .ok (.iadd, 1) := by decide +kernel
theorem dL_law_1766 : decode cL_law 1766 = .ok (.iaload, 1) := by decide +kernel
theorem dL_law_1767 : decode cL_law 1767 = .ok (.invokevirtual 185, 3) := by decide +kernel
theorem dL_law_1770 : decode cL_law 1770 = .ok (.if_icmp .eq 30, 3) := by decide +kernel
theorem dL_law_1775 : decode cL_law 1775 = .ok (.aload_n 1, 1) := by decide +kernel
theorem dL_law_1776 : decode cL_law 1776 = .ok (.aload_n 0, 1) := by decide +kernel
theorem dL_law_1777 : decode cL_law 1777 = .ok (.iload 4, 2) := by decide +kernel
theorem dL_law_1779 : decode cL_law 1779 = .ok (.iconst 1, 1) := by decide +kernel
theorem dL_law_1780 : decode cL_law 1780 = .ok (.iadd, 1) := by decide +kernel
theorem dL_law_1781 : decode cL_law 1781 = .ok (.iaload, 1) := by decide +kernel
theorem dL_law_1782 : decode cL_law 1782 = .ok (.invokevirtual 186, 3) := by decide +kernel
theorem dL_law_1785 : decode cL_law 1785 = .ok (.aload_n 2, 1) := by decide +kernel
theorem dL_law_1786 : decode cL_law 1786 = .ok (.aload_n 0, 1) := by decide +kernel
theorem dL_law_1787 : decode cL_law 1787 = .ok (.iload 4, 2) := by decide +kernel
theorem dL_law_1789 : decode cL_law 1789 = .ok (.iconst 1, 1) := by decide +kernel
theorem dL_law_1790 : decode cL_law 1790 = .ok (.iadd, 1) := by decide +kernel
theorem dL_law_1791 : decode cL_law 1791 = .ok (.iaload, 1) := by decide +kernel
theorem dL_law_1792 : decode cL_law 1792 = .ok (.invokevirtual 189, 3) := by decide +kernel
theorem dL_law_1795 : decode cL_law 1795 = .ok (.if_icmp .eq 5, 3) := by decide +kernel
theorem dL_law_1800 : decode cL_law 1800 = .ok (.iinc 4 6, 3) := by decide +kernel
theorem dL_law_1803 : decode cL_law 1803 = .ok (.goto (-1780), 3) := by decide +kernel
theorem dL_law_1806 : decode cL_law 1806 = .ok (.iconst 1, 1) := by decide +kernel
theorem dL_law_1807 : decode cL_law 1807 = .ok (.ireturn, 1) := by decide +kernel
section CS
variable {p : Program} {l : Launch} {e : Env} {s : State} {m : MethodId} {below : List Frame} {meth : Method} {c : Code} {H : Heap} {cells slots : Nat} {Q : State → Prop}
variable {μ : Mm} {ls : Array Slot} {b L n : Nat} {xs : Nat → Int32} {D : va_G} {cyf : Nat → ClassId} {tb : Nat → Nat} {ks : List Nat} {g : Nat → Int64}
set_option maxHeartbeats 4000000 in
theorem la_tape (C : LC p l s m c b L xs D cyf) (hn : 6 * n + 6 ≤ L) (hI : LI s D cyf tb ks μ g H) (hl : lv_has ls 8 (lcs s b (nI (6 * n)))) (hc : cells + 33 ≤ room_1.cells ∧ slots + 2800 ≤ room_1.slots)
    (kk : ∀ (tb : Nat → Nat) (ks : List Nat) (μ : Mm) (g : Nat → Int64) (H : Heap) (ls : Array Slot), LI s D cyf tb ks μ g H → lv_has ls 8 (lcs s b (nI (6 * n))) → W p l e room_1 s m #[.ref b] below meth c H [] (cells + 33) (slots + 2800) Q (F0 m 1800 ls [])) : W p l e room_1 s m #[.ref b] below meth c H [] cells slots Q (F0 m 1264 ls []) := by
  obtain ⟨hG, hH, hK, hR⟩ := hI
  have X := C.cx hG
  have hx := X.1.1
  have hb := X.1.2.1
  obtain ⟨r, μ1, μ2, e1, e2, hR2⟩ := op_tape (F := 1000) (Nat.le_refl _) hR (xs (6 * n + 1)) (xs (6 * n + 2)) (xs (6 * n + 3))
  have e1 : f_X9_tape μ (xs (6 * n + 1)) (xs (6 * n + 2)) (xs (6 * n + 3)) = some (r, μ1) := e1
  have e2 : f_X10_tape 1000 μ1 (xs (6 * n + 1)) (xs (6 * n + 2)) (xs (6 * n + 3)) = some (r, μ2) := e2
  have ke1 : KP μ μ1 := fun d => (fr_X9_tape (by omega) (by omega) (by omega) (by omega) e1).1
  have ke2 : KP μ1 μ2 := fun d => (fr_X10_tape (by omega) (by omega) (by omega) (by omega) e2).1
  refine lv_aload_n hx hb dL_law_1264 rfl (lv_at hl 3 rfl) ?_
  refine la_arg (n := n) (j := 1) C hH.2.2 (lv_at hl 4 rfl) (lv_at hl 0 rfl) hn rfl (by decide) dL_law_1265 dL_law_1266 dL_law_1268 dL_law_1269 dL_law_1270 ?_
  refine la_arg (n := n) (j := 2) C hH.2.2 (lv_at hl 4 rfl) (lv_at hl 0 rfl) hn rfl (by decide) dL_law_1271 dL_law_1272 dL_law_1274 dL_law_1275 dL_law_1276 ?_
  refine la_arg (n := n) (j := 3) C hH.2.2 (lv_at hl 4 rfl) (lv_at hl 0 rfl) hn rfl (by decide) dL_law_1277 dL_law_1278 dL_law_1280 dL_law_1281 dL_law_1282 ?_
  refine la_V (k := 900) (i := 0) (As := [.int (xs (6 * n + 1)), .int (xs (6 * n + 2)), .int (xs (6 * n + 3))]) (rest := []) X hG hH (c_X9_tape l _ (En_l9 D cyf s.heap.size (s.heap.size + 75) tb (exs ks)) e1) ml_L_145 kv_X9_tape (la_x X hH) rfl rfl ⟨Nat.le_of_ble_eq_true rfl, Nat.le_of_ble_eq_true rfl⟩ ⟨by omega, by omega⟩ rfl rfl hl.1 (Nat.le_of_ble_eq_true rfl) dL_law_1283 (st1 := [.int (r)]) rfl (fun H hH => ?_)
  refine lv_aload_n hx hb dL_law_1286 rfl (lv_at hl 2 rfl) ?_
  refine la_arg (n := n) (j := 1) C hH.2.2 (lv_at hl 4 rfl) (lv_at hl 0 rfl) hn rfl (by decide) dL_law_1287 dL_law_1288 dL_law_1290 dL_law_1291 dL_law_1292 ?_
  refine la_arg (n := n) (j := 2) C hH.2.2 (lv_at hl 4 rfl) (lv_at hl 0 rfl) hn rfl (by decide) dL_law_1293 dL_law_1294 dL_law_1296 dL_law_1297 dL_law_1298 ?_
  refine la_arg (n := n) (j := 3) C hH.2.2 (lv_at hl 4 rfl) (lv_at hl 0 rfl) hn rfl (by decide) dL_law_1299 dL_law_1300 dL_law_1302 dL_law_1303 dL_law_1304 ?_
  refine la_V (k := 1000) (i := 0) (As := [.int (xs (6 * n + 1)), .int (xs (6 * n + 2)), .int (xs (6 * n + 3))]) (rest := [.int (r)]) X hG hH (c_X10_tape l _ (En_l10 D cyf s.heap.size (s.heap.size + 75) tb (exs ks)) e2) ml_L_148 kv_X10_tape (la_m X hH) rfl rfl ⟨Nat.le_of_ble_eq_true rfl, Nat.le_of_ble_eq_true rfl⟩ ⟨by omega, by omega⟩ rfl rfl hl.1 (Nat.le_of_ble_eq_true rfl) dL_law_1305 (st1 := [.int (r), .int (r)]) rfl (fun H hH => ?_)
  refine lv_icmp_eq (tgt := 1800) hx hb dL_law_1308 rfl (fun _ => ?_) (fun h => absurd rfl h)
  exact W.widen (by omega) (by omega) (kk tb ks μ2 g H ls ⟨hG, hH, hK.mv (ke1.tr ke2), hR2⟩ hl)
set_option maxHeartbeats 4000000 in
theorem la_back (C : LC p l s m c b L xs D cyf) (hn : 6 * n + 6 ≤ L) (hI : LI s D cyf tb ks μ g H) (hl : lv_has ls 8 (lcs s b (nI (6 * n)))) (hc : cells + 33 ≤ room_1.cells ∧ slots + 2800 ≤ room_1.slots)
    (kk : ∀ (tb : Nat → Nat) (ks : List Nat) (μ : Mm) (g : Nat → Int64) (H : Heap) (ls : Array Slot), LI s D cyf tb ks μ g H → lv_has ls 8 (lcs s b (nI (6 * n))) → W p l e room_1 s m #[.ref b] below meth c H [] (cells + 33) (slots + 2800) Q (F0 m 1800 ls [])) : W p l e room_1 s m #[.ref b] below meth c H [] cells slots Q (F0 m 1338 ls []) := by
  obtain ⟨hG, hH, hK, hR⟩ := hI
  have X := C.cx hG
  have hx := X.1.1
  have hb := X.1.2.1
  obtain ⟨r, μ1, μ2, e1, e2, hR2⟩ := op_back (F := 1000) (Nat.le_refl _) hR (xs (6 * n + 1))
  have e1 : f_X9_back 1000 μ (xs (6 * n + 1)) = some (r, μ1) := e1
  have e2 : f_X10_back 1000 μ1 (xs (6 * n + 1)) = some (r, μ2) := e2
  have ke1 : KP μ μ1 := kp_X9_back e1
  have ke2 : KP μ1 μ2 := fun d => (fr_X10_back (by omega) (by omega) (by omega) (by omega) (by omega) (by omega) (by omega) (by omega) (by omega) (by omega) (by omega) (by omega) (by omega) e2).1
  refine lv_aload_n hx hb dL_law_1338 rfl (lv_at hl 3 rfl) ?_
  refine la_arg (n := n) (j := 1) C hH.2.2 (lv_at hl 4 rfl) (lv_at hl 0 rfl) hn rfl (by decide) dL_law_1339 dL_law_1340 dL_law_1342 dL_law_1343 dL_law_1344 ?_
  refine la_V (k := 900) (i := 0) (As := [.int (xs (6 * n + 1))]) (rest := []) X hG hH (c_X9_back l _ (En_l9 D cyf s.heap.size (s.heap.size + 75) tb (exs ks)) hK.l7 e1) ml_L_153 kv_X9_back (la_x X hH) rfl rfl ⟨Nat.le_of_ble_eq_true rfl, Nat.le_of_ble_eq_true rfl⟩ ⟨by omega, by omega⟩ rfl rfl hl.1 (Nat.le_of_ble_eq_true rfl) dL_law_1345 (st1 := [.int (r)]) rfl (fun H hH => ?_)
  refine lv_aload_n hx hb dL_law_1348 rfl (lv_at hl 2 rfl) ?_
  refine la_arg (n := n) (j := 1) C hH.2.2 (lv_at hl 4 rfl) (lv_at hl 0 rfl) hn rfl (by decide) dL_law_1349 dL_law_1350 dL_law_1352 dL_law_1353 dL_law_1354 ?_
  refine la_V (k := 1000) (i := 0) (As := [.int (xs (6 * n + 1))]) (rest := [.int (r)]) X hG hH (c_X10_back l _ (En_l10 D cyf s.heap.size (s.heap.size + 75) tb (exs ks)) e2) ml_L_156 kv_X10_back (la_m X hH) rfl rfl ⟨Nat.le_of_ble_eq_true rfl, Nat.le_of_ble_eq_true rfl⟩ ⟨by omega, by omega⟩ rfl rfl hl.1 (Nat.le_of_ble_eq_true rfl) dL_law_1355 (st1 := [.int (r), .int (r)]) rfl (fun H hH => ?_)
  refine lv_icmp_eq (tgt := 1800) hx hb dL_law_1358 rfl (fun _ => ?_) (fun h => absurd rfl h)
  exact W.widen (by omega) (by omega) (kk tb ks μ2 g H ls ⟨hG, hH, hK.mv (ke1.tr ke2), hR2⟩ hl)
set_option maxHeartbeats 4000000 in
theorem la_differ (C : LC p l s m c b L xs D cyf) (hn : 6 * n + 6 ≤ L) (hI : LI s D cyf tb ks μ g H) (hl : lv_has ls 8 (lcs s b (nI (6 * n)))) (hc : cells + 33 ≤ room_1.cells ∧ slots + 2800 ≤ room_1.slots)
    (kk : ∀ (tb : Nat → Nat) (ks : List Nat) (μ : Mm) (g : Nat → Int64) (H : Heap) (ls : Array Slot), LI s D cyf tb ks μ g H → lv_has ls 8 (lcs s b (nI (6 * n))) → W p l e room_1 s m #[.ref b] below meth c H [] (cells + 33) (slots + 2800) Q (F0 m 1800 ls [])) : W p l e room_1 s m #[.ref b] below meth c H [] cells slots Q (F0 m 1363 ls []) := by
  obtain ⟨hG, hH, hK, hR⟩ := hI
  have X := C.cx hG
  have hx := X.1.1
  have hb := X.1.2.1
  obtain ⟨k, v, r, μ1, μ2, e1, e2, hk, hv, -, hR2⟩ := op_differ (F := 1000) (Nat.le_refl _) hR (xs (6 * n + 1)) (xs (6 * n + 2)) (xs (6 * n + 3))
  have e1 : f_X9_differ 1000 μ (xs (6 * n + 1)) (xs (6 * n + 2)) (xs (6 * n + 3)) = some (k, v, μ1) := e1
  have e2 : f_X10_differ 1000 μ1 (xs (6 * n + 1)) (xs (6 * n + 2)) (xs (6 * n + 3)) = some (r, μ2) := e2
  have ke1 : KP μ μ1 := kp_X9_differ e1
  have ke2 : KP μ1 μ2 := fun d => (fr_X10_differ (by omega) (by omega) (by omega) (by omega) (by omega) (by omega) (by omega) (by omega) (by omega) (by omega) e2).1
  refine lv_aload_n hx hb dL_law_1363 rfl (lv_at hl 3 rfl) ?_
  refine la_arg (n := n) (j := 1) C hH.2.2 (lv_at hl 4 rfl) (lv_at hl 0 rfl) hn rfl (by decide) dL_law_1364 dL_law_1365 dL_law_1367 dL_law_1368 dL_law_1369 ?_
  refine la_arg (n := n) (j := 2) C hH.2.2 (lv_at hl 4 rfl) (lv_at hl 0 rfl) hn rfl (by decide) dL_law_1370 dL_law_1371 dL_law_1373 dL_law_1374 dL_law_1375 ?_
  refine la_arg (n := n) (j := 3) C hH.2.2 (lv_at hl 4 rfl) (lv_at hl 0 rfl) hn rfl (by decide) dL_law_1376 dL_law_1377 dL_law_1379 dL_law_1380 dL_law_1381 ?_
  refine lv_aload_n hx hb dL_law_1382 rfl (lv_at hl 1 rfl) ?_
  refine la_S (np := 5) (k := k) (v := v.toInt64) (As := [.ref (s.heap.size), .int (xs (6 * n + 1)), .int (xs (6 * n + 2)), .int (xs (6 * n + 3)), .ref (s.heap.size + 113)]) (rest := []) X hG hH C.2.2.2.2.2.1 C.2.2.2.2.2.2.1 (c_L_differ l C.2.2.2.2.2.2.2.1 (EL s D cyf tb ks) (F := 1000) (ao := s.heap.size + 113) (g := g) (En_l9 D cyf s.heap.size (s.heap.size + 75) tb (exs ks)) hK.l7 e1) ml_L_157 cw_L_differ (T1_of 1147 (by decide +kernel) rfl) in_L (by decide +kernel) rfl rfl ⟨Nat.le_of_ble_eq_true rfl, Nat.le_of_ble_eq_true rfl⟩ ⟨by omega, by omega⟩ rfl rfl hl.1 (Nat.le_of_ble_eq_true rfl) dL_law_1383 (fun H g hg hH => ?_)
  refine lv_istore hx hb dL_law_1386 hl (by decide) rfl (fun ls hl => ?_)
  have hl : lv_has ls 8 ((5, .int k) :: lcs s b (nI (6 * n))) := hl
  refine lv_aload_n hx hb dL_law_1388 rfl (lv_at hl 3 rfl) ?_
  refine la_arg (n := n) (j := 1) C hH.2.2 (lv_at hl 5 rfl) (lv_at hl 1 rfl) hn rfl (by decide) dL_law_1389 dL_law_1390 dL_law_1392 dL_law_1393 dL_law_1394 ?_
  refine la_arg (n := n) (j := 2) C hH.2.2 (lv_at hl 5 rfl) (lv_at hl 1 rfl) hn rfl (by decide) dL_law_1395 dL_law_1396 dL_law_1398 dL_law_1399 dL_law_1400 ?_
  refine la_arg (n := n) (j := 3) C hH.2.2 (lv_at hl 5 rfl) (lv_at hl 1 rfl) hn rfl (by decide) dL_law_1401 dL_law_1402 dL_law_1404 dL_law_1405 dL_law_1406 ?_
  refine la_V (k := 1000) (i := 0) (As := [.int (xs (6 * n + 1)), .int (xs (6 * n + 2)), .int (xs (6 * n + 3))]) (rest := []) X hG hH (c_X10_differ l _ (En_l10 D cyf s.heap.size (s.heap.size + 75) tb (exs ks)) e2) ml_L_159 kv_X10_differ (la_m X hH) rfl rfl ⟨Nat.le_of_ble_eq_true rfl, Nat.le_of_ble_eq_true rfl⟩ ⟨by omega, by omega⟩ rfl rfl hl.1 (Nat.le_of_ble_eq_true rfl) dL_law_1407 (st1 := [.int (r)]) rfl (fun H hH => ?_)
  refine lv_istore hx hb dL_law_1410 hl (by decide) rfl (fun ls hl => ?_)
  have hl : lv_has ls 8 ((6, .int r) :: (5, .int k) :: lcs s b (nI (6 * n))) := hl
  refine lv_aload_n hx hb dL_law_1412 rfl (lv_at hl 4 rfl) ?_
  refine la_V (k := 1000) (i := 0) (As := []) (rest := []) X hG hH (c_X10_thrown l _ (En_l10 D cyf s.heap.size (s.heap.size + 75) tb (exs ks)) (show f_X10_thrown μ2 = some k from congrArg some hk)) ml_L_126 kv_X10_thrown (la_m X hH) rfl rfl ⟨Nat.le_of_ble_eq_true rfl, Nat.le_of_ble_eq_true rfl⟩ ⟨by omega, by omega⟩ rfl rfl hl.1 (Nat.le_of_ble_eq_true rfl) dL_law_1413 (st1 := [.int (k)]) rfl (fun H hH => ?_)
  refine lv_iload hx hb dL_law_1416 (lv_at hl 1 rfl) ?_
  refine lv_icmp_eq (tgt := 1423) hx hb dL_law_1418 rfl (fun _ => ?_) (fun h => absurd rfl h)
  refine lv_iload hx hb dL_law_1423 (lv_at hl 1 rfl) ?_
  have fin : ∀ q : Unit, W p l e room_1 s m #[.ref b] below meth c H [] (cells + 1) (slots + 6) Q (F0 m 1440 ls []) := fun _ => by
    refine lv_goto (tgt := 1800) hx hb dL_law_1440 rfl ?_
    exact W.widen (by omega) (by omega) (kk tb ks μ2 g H ls ⟨hG, hH, hK.mv (ke1.tr ke2), hR2⟩ ⟨hl.1, hl.2.1, fun q hq => hl.2.2 q (List.mem_cons_of_mem _ (List.mem_cons_of_mem _ hq))⟩)
  refine lv_if_ne (tgt := 1440) hx hb dL_law_1425 rfl (fun _ => fin ()) (fun h0 => ?_)
  refine lv_aload_n hx hb dL_law_1428 rfl (lv_at hl 3 rfl) ?_
  refine lv_iconst (v := (0 : Int32)) hx hb dL_law_1429 kc_0 ?_
  refine la_out X hH dL_law_1430 ?_
  refine lv_iload hx hb dL_law_1431 (lv_at hl 0 rfl) ?_
  refine lv_i2l (v := r.toInt64) hx hb dL_law_1433 rfl ?_
  rw [hg h0, hv h0]
  refine W.lcmp hx hb dL_law_1434 ?_
  rw [cmp_self]
  exact lv_if_eq (tgt := 1440) hx hb dL_law_1435 rfl (fun _ => fin ()) (fun h => absurd rfl h)
set_option maxHeartbeats 4000000 in
theorem la_toss (C : LC p l s m c b L xs D cyf) (hn : 6 * n + 6 ≤ L) (hI : LI s D cyf tb ks μ g H) (hl : lv_has ls 8 (lcs s b (nI (6 * n)))) (hc : cells + 33 ≤ room_1.cells ∧ slots + 2800 ≤ room_1.slots)
    (kk : ∀ (tb : Nat → Nat) (ks : List Nat) (μ : Mm) (g : Nat → Int64) (H : Heap) (ls : Array Slot), LI s D cyf tb ks μ g H → lv_has ls 8 (lcs s b (nI (6 * n))) → W p l e room_1 s m #[.ref b] below meth c H [] (cells + 33) (slots + 2800) Q (F0 m 1800 ls [])) : W p l e room_1 s m #[.ref b] below meth c H [] cells slots Q (F0 m 1443 ls []) := by
  obtain ⟨hG, hH, hK, hR⟩ := hI
  have X := C.cx hG
  have hx := X.1.1
  have hb := X.1.2.1
  obtain ⟨r, μ1, μ2, e1, e2, hR2⟩ := op_toss (F := 1000) (Nat.le_refl _) hR (xs (6 * n + 1))
  have e1 : f_X9_toss 1000 μ (xs (6 * n + 1)) = some (r, μ1) := e1
  have e2 : f_X10_toss μ1 (xs (6 * n + 1)) = some (r, μ2) := e2
  have ke1 : KP μ μ1 := kp_X9_toss e1
  have ke2 : KP μ1 μ2 := fun d => (fr_X10_toss (by omega) e2).1
  refine lv_aload_n hx hb dL_law_1443 rfl (lv_at hl 3 rfl) ?_
  refine la_arg (n := n) (j := 1) C hH.2.2 (lv_at hl 4 rfl) (lv_at hl 0 rfl) hn rfl (by decide) dL_law_1444 dL_law_1445 dL_law_1447 dL_law_1448 dL_law_1449 ?_
  refine la_V (k := 900) (i := 0) (As := [.int (xs (6 * n + 1))]) (rest := []) X hG hH (c_X9_toss l _ (En_l9 D cyf s.heap.size (s.heap.size + 75) tb (exs ks)) hK.l7 e1) ml_L_160 kv_X9_toss (la_x X hH) rfl rfl ⟨Nat.le_of_ble_eq_true rfl, Nat.le_of_ble_eq_true rfl⟩ ⟨by omega, by omega⟩ rfl rfl hl.1 (Nat.le_of_ble_eq_true rfl) dL_law_1450 (st1 := [.int (r)]) rfl (fun H hH => ?_)
  refine lv_aload_n hx hb dL_law_1453 rfl (lv_at hl 2 rfl) ?_
  refine la_arg (n := n) (j := 1) C hH.2.2 (lv_at hl 4 rfl) (lv_at hl 0 rfl) hn rfl (by decide) dL_law_1454 dL_law_1455 dL_law_1457 dL_law_1458 dL_law_1459 ?_
  refine la_V (k := 1000) (i := 0) (As := [.int (xs (6 * n + 1))]) (rest := [.int (r)]) X hG hH (c_X10_toss l _ (En_l10 D cyf s.heap.size (s.heap.size + 75) tb (exs ks)) e2) ml_L_163 kv_X10_toss (la_m X hH) rfl rfl ⟨Nat.le_of_ble_eq_true rfl, Nat.le_of_ble_eq_true rfl⟩ ⟨by omega, by omega⟩ rfl rfl hl.1 (Nat.le_of_ble_eq_true rfl) dL_law_1460 (st1 := [.int (r), .int (r)]) rfl (fun H hH => ?_)
  refine lv_icmp_eq (tgt := 1800) hx hb dL_law_1463 rfl (fun _ => ?_) (fun h => absurd rfl h)
  exact W.widen (by omega) (by omega) (kk tb ks μ2 g H ls ⟨hG, hH, hK.mv (ke1.tr ke2), hR2⟩ hl)
set_option maxHeartbeats 4000000 in
theorem la_play (C : LC p l s m c b L xs D cyf) (hn : 6 * n + 6 ≤ L) (hI : LI s D cyf tb ks μ g H) (hl : lv_has ls 8 (lcs s b (nI (6 * n)))) (hc : cells + 33 ≤ room_1.cells ∧ slots + 2800 ≤ room_1.slots)
    (kk : ∀ (tb : Nat → Nat) (ks : List Nat) (μ : Mm) (g : Nat → Int64) (H : Heap) (ls : Array Slot), LI s D cyf tb ks μ g H → lv_has ls 8 (lcs s b (nI (6 * n))) → W p l e room_1 s m #[.ref b] below meth c H [] (cells + 33) (slots + 2800) Q (F0 m 1800 ls [])) : W p l e room_1 s m #[.ref b] below meth c H [] cells slots Q (F0 m 1468 ls []) := by
  obtain ⟨hG, hH, hK, hR⟩ := hI
  have X := C.cx hG
  have hx := X.1.1
  have hb := X.1.2.1
  obtain ⟨r, μ1, μ2, e1, e2, hR2⟩ := op_play (F := 1000) (Nat.le_refl _) hR (xs (6 * n + 1)) (xs (6 * n + 2)) (xs (6 * n + 3)) (xs (6 * n + 4))
  have e1 : f_X9_play 1000 μ (xs (6 * n + 1)) (xs (6 * n + 2)) (xs (6 * n + 3)) (xs (6 * n + 4)) = some (r, μ1) := e1
  have e2 : f_X10_play 1000 μ1 (xs (6 * n + 1)) (xs (6 * n + 2)) (xs (6 * n + 3)) (xs (6 * n + 4)) = some (r, μ2) := e2
  have ke1 : KP μ μ1 := kp_X9_play e1
  have ke2 : KP μ1 μ2 := fun d => (fr_X10_play (by omega) (by omega) (by omega) (by omega) (by omega) (by omega) (by omega) (by omega) (by omega) (by omega) (by omega) (by omega) (by omega) (by omega) (by omega) (by omega) e2).1
  refine lv_aload_n hx hb dL_law_1468 rfl (lv_at hl 3 rfl) ?_
  refine la_arg (n := n) (j := 1) C hH.2.2 (lv_at hl 4 rfl) (lv_at hl 0 rfl) hn rfl (by decide) dL_law_1469 dL_law_1470 dL_law_1472 dL_law_1473 dL_law_1474 ?_
  refine la_arg (n := n) (j := 2) C hH.2.2 (lv_at hl 4 rfl) (lv_at hl 0 rfl) hn rfl (by decide) dL_law_1475 dL_law_1476 dL_law_1478 dL_law_1479 dL_law_1480 ?_
  refine la_arg (n := n) (j := 3) C hH.2.2 (lv_at hl 4 rfl) (lv_at hl 0 rfl) hn rfl (by decide) dL_law_1481 dL_law_1482 dL_law_1484 dL_law_1485 dL_law_1486 ?_
  refine la_arg (n := n) (j := 4) C hH.2.2 (lv_at hl 4 rfl) (lv_at hl 0 rfl) hn rfl (by decide) dL_law_1487 dL_law_1488 dL_law_1490 dL_law_1491 dL_law_1492 ?_
  refine la_V (k := 900) (i := 0) (As := [.int (xs (6 * n + 1)), .int (xs (6 * n + 2)), .int (xs (6 * n + 3)), .int (xs (6 * n + 4))]) (rest := []) X hG hH (c_X9_play l _ (En_l9 D cyf s.heap.size (s.heap.size + 75) tb (exs ks)) e1) ml_L_164 kv_X9_play (la_x X hH) rfl rfl ⟨Nat.le_of_ble_eq_true rfl, Nat.le_of_ble_eq_true rfl⟩ ⟨by omega, by omega⟩ rfl rfl hl.1 (Nat.le_of_ble_eq_true rfl) dL_law_1493 (st1 := [.int (r)]) rfl (fun H hH => ?_)
  refine lv_aload_n hx hb dL_law_1496 rfl (lv_at hl 2 rfl) ?_
  refine la_arg (n := n) (j := 1) C hH.2.2 (lv_at hl 4 rfl) (lv_at hl 0 rfl) hn rfl (by decide) dL_law_1497 dL_law_1498 dL_law_1500 dL_law_1501 dL_law_1502 ?_
  refine la_arg (n := n) (j := 2) C hH.2.2 (lv_at hl 4 rfl) (lv_at hl 0 rfl) hn rfl (by decide) dL_law_1503 dL_law_1504 dL_law_1506 dL_law_1507 dL_law_1508 ?_
  refine la_arg (n := n) (j := 3) C hH.2.2 (lv_at hl 4 rfl) (lv_at hl 0 rfl) hn rfl (by decide) dL_law_1509 dL_law_1510 dL_law_1512 dL_law_1513 dL_law_1514 ?_
  refine la_arg (n := n) (j := 4) C hH.2.2 (lv_at hl 4 rfl) (lv_at hl 0 rfl) hn rfl (by decide) dL_law_1515 dL_law_1516 dL_law_1518 dL_law_1519 dL_law_1520 ?_
  refine la_V (k := 1000) (i := 0) (As := [.int (xs (6 * n + 1)), .int (xs (6 * n + 2)), .int (xs (6 * n + 3)), .int (xs (6 * n + 4))]) (rest := [.int (r)]) X hG hH (c_X10_play l _ (En_l10 D cyf s.heap.size (s.heap.size + 75) tb (exs ks)) e2) ml_L_167 kv_X10_play (la_m X hH) rfl rfl ⟨Nat.le_of_ble_eq_true rfl, Nat.le_of_ble_eq_true rfl⟩ ⟨by omega, by omega⟩ rfl rfl hl.1 (Nat.le_of_ble_eq_true rfl) dL_law_1521 (st1 := [.int (r), .int (r)]) rfl (fun H hH => ?_)
  refine lv_icmp_eq (tgt := 1800) hx hb dL_law_1524 rfl (fun _ => ?_) (fun h => absurd rfl h)
  exact W.widen (by omega) (by omega) (kk tb ks μ2 g H ls ⟨hG, hH, hK.mv (ke1.tr ke2), hR2⟩ hl)
set_option maxHeartbeats 4000000 in
theorem la_clear (C : LC p l s m c b L xs D cyf) (hn : 6 * n + 6 ≤ L) (hI : LI s D cyf tb ks μ g H) (hl : lv_has ls 8 (lcs s b (nI (6 * n)))) (hc : cells + 33 ≤ room_1.cells ∧ slots + 2800 ≤ room_1.slots)
    (kk : ∀ (tb : Nat → Nat) (ks : List Nat) (μ : Mm) (g : Nat → Int64) (H : Heap) (ls : Array Slot), LI s D cyf tb ks μ g H → lv_has ls 8 (lcs s b (nI (6 * n))) → W p l e room_1 s m #[.ref b] below meth c H [] (cells + 33) (slots + 2800) Q (F0 m 1800 ls [])) : W p l e room_1 s m #[.ref b] below meth c H [] cells slots Q (F0 m 1529 ls []) := by
  obtain ⟨hG, hH, hK, hR⟩ := hI
  have X := C.cx hG
  have hx := X.1.1
  have hb := X.1.2.1
  obtain ⟨r, μ1, μ2, e1, e2, hR2⟩ := op_clear hR (xs (6 * n + 1))
  have e1 : f_X9_clear μ (xs (6 * n + 1)) = some (r, μ1) := e1
  have e2 : f_X10_clear μ1 (xs (6 * n + 1)) = some (r, μ2) := e2
  have ke1 : KP μ μ1 := fun d => (fr_X9_clear (by omega) e1).1
  have ke2 : KP μ1 μ2 := fun d => (fr_X10_clear (by omega) e2).1
  refine lv_aload_n hx hb dL_law_1529 rfl (lv_at hl 3 rfl) ?_
  refine la_arg (n := n) (j := 1) C hH.2.2 (lv_at hl 4 rfl) (lv_at hl 0 rfl) hn rfl (by decide) dL_law_1530 dL_law_1531 dL_law_1533 dL_law_1534 dL_law_1535 ?_
  refine la_V (k := 900) (i := 0) (As := [.int (xs (6 * n + 1))]) (rest := []) X hG hH (c_X9_clear l _ (En_l9 D cyf s.heap.size (s.heap.size + 75) tb (exs ks)) e1) ml_L_168 kv_X9_clear (la_x X hH) rfl rfl ⟨Nat.le_of_ble_eq_true rfl, Nat.le_of_ble_eq_true rfl⟩ ⟨by omega, by omega⟩ rfl rfl hl.1 (Nat.le_of_ble_eq_true rfl) dL_law_1536 (st1 := [.int (r)]) rfl (fun H hH => ?_)
  refine lv_aload_n hx hb dL_law_1539 rfl (lv_at hl 2 rfl) ?_
  refine la_arg (n := n) (j := 1) C hH.2.2 (lv_at hl 4 rfl) (lv_at hl 0 rfl) hn rfl (by decide) dL_law_1540 dL_law_1541 dL_law_1543 dL_law_1544 dL_law_1545 ?_
  refine la_V (k := 1000) (i := 0) (As := [.int (xs (6 * n + 1))]) (rest := [.int (r)]) X hG hH (c_X10_clear l _ (En_l10 D cyf s.heap.size (s.heap.size + 75) tb (exs ks)) e2) ml_L_171 kv_X10_clear (la_m X hH) rfl rfl ⟨Nat.le_of_ble_eq_true rfl, Nat.le_of_ble_eq_true rfl⟩ ⟨by omega, by omega⟩ rfl rfl hl.1 (Nat.le_of_ble_eq_true rfl) dL_law_1546 (st1 := [.int (r), .int (r)]) rfl (fun H hH => ?_)
  refine lv_icmp_eq (tgt := 1800) hx hb dL_law_1549 rfl (fun _ => ?_) (fun h => absurd rfl h)
  exact W.widen (by omega) (by omega) (kk tb ks μ2 g H ls ⟨hG, hH, hK.mv (ke1.tr ke2), hR2⟩ hl)
set_option maxHeartbeats 4000000 in
theorem la_put (C : LC p l s m c b L xs D cyf) (hn : 6 * n + 6 ≤ L) (hI : LI s D cyf tb ks μ g H) (hl : lv_has ls 8 (lcs s b (nI (6 * n)))) (hc : cells + 33 ≤ room_1.cells ∧ slots + 2800 ≤ room_1.slots)
    (kk : ∀ (tb : Nat → Nat) (ks : List Nat) (μ : Mm) (g : Nat → Int64) (H : Heap) (ls : Array Slot), LI s D cyf tb ks μ g H → lv_has ls 8 (lcs s b (nI (6 * n))) → W p l e room_1 s m #[.ref b] below meth c H [] (cells + 33) (slots + 2800) Q (F0 m 1800 ls [])) : W p l e room_1 s m #[.ref b] below meth c H [] cells slots Q (F0 m 1554 ls []) := by
  obtain ⟨hG, hH, hK, hR⟩ := hI
  have X := C.cx hG
  have hx := X.1.1
  have hb := X.1.2.1
  obtain ⟨r, μ1, μ2, e1, e2, hR2⟩ := op_put hR (xs (6 * n + 1)) (xs (6 * n + 2)) ((((xs (6 * n + 3)).toInt64) <<< (((32 : Int32)).toInt64 &&& 63)) ||| (((xs (6 * n + 4)).toInt64) &&& ((4294967295 : Int64))))
  have e1 : f_X9_put μ (xs (6 * n + 1)) (xs (6 * n + 2)) ((((xs (6 * n + 3)).toInt64) <<< (((32 : Int32)).toInt64 &&& 63)) ||| (((xs (6 * n + 4)).toInt64) &&& ((4294967295 : Int64)))) = some (r, μ1) := e1
  have e2 : f_X10_put μ1 (xs (6 * n + 1)) (xs (6 * n + 2)) ((((xs (6 * n + 3)).toInt64) <<< (((32 : Int32)).toInt64 &&& 63)) ||| (((xs (6 * n + 4)).toInt64) &&& ((4294967295 : Int64)))) = some (r, μ2) := e2
  have ke1 : KP μ μ1 := fun d => (fr_X9_put (by omega) (by omega) e1).1
  have ke2 : KP μ1 μ2 := fun d => (fr_X10_put (by omega) (by omega) e2).1
  refine lv_aload_n hx hb dL_law_1554 rfl (lv_at hl 3 rfl) ?_
  refine la_arg (n := n) (j := 1) C hH.2.2 (lv_at hl 4 rfl) (lv_at hl 0 rfl) hn rfl (by decide) dL_law_1555 dL_law_1556 dL_law_1558 dL_law_1559 dL_law_1560 ?_
  refine la_arg (n := n) (j := 2) C hH.2.2 (lv_at hl 4 rfl) (lv_at hl 0 rfl) hn rfl (by decide) dL_law_1561 dL_law_1562 dL_law_1564 dL_law_1565 dL_law_1566 ?_
  refine la_arg (n := n) (j := 3) C hH.2.2 (lv_at hl 4 rfl) (lv_at hl 0 rfl) hn rfl (by decide) dL_law_1567 dL_law_1568 dL_law_1570 dL_law_1571 dL_law_1572 ?_
  refine lv_i2l (v := (xs (6 * n + 3)).toInt64) hx hb dL_law_1573 rfl ?_
  refine lv_bipush (v := (32 : Int32)) hx hb dL_law_1574 (by decide) ?_
  refine lv_lshl (v := (((xs (6 * n + 3)).toInt64) <<< (((32 : Int32)).toInt64 &&& 63))) hx hb dL_law_1576 rfl ?_
  refine la_arg (n := n) (j := 4) C hH.2.2 (lv_at hl 4 rfl) (lv_at hl 0 rfl) hn rfl (by decide) dL_law_1577 dL_law_1578 dL_law_1580 dL_law_1581 dL_law_1582 ?_
  refine lv_i2l (v := (xs (6 * n + 4)).toInt64) hx hb dL_law_1583 rfl ?_
  refine lv_ldc2 (v := (4294967295 : Int64)) hx hb X.1.2.2.2.1 (m_in X kq_L_172) dL_law_1584 ?_
  refine lv_land hx hb dL_law_1587 ?_
  refine lv_lor hx hb dL_law_1588 ?_
  refine la_V (k := 900) (i := 0) (As := [.int (xs (6 * n + 1)), .int (xs (6 * n + 2)), .long ((((((xs (6 * n + 3)).toInt64) <<< (((32 : Int32)).toInt64 &&& 63))) ||| ((((xs (6 * n + 4)).toInt64) &&& ((4294967295 : Int64))))))]) (rest := []) X hG hH (c_X9_put l _ (En_l9 D cyf s.heap.size (s.heap.size + 75) tb (exs ks)) e1) ml_L_174 kv_X9_put (la_x X hH) rfl rfl ⟨Nat.le_of_ble_eq_true rfl, Nat.le_of_ble_eq_true rfl⟩ ⟨by omega, by omega⟩ rfl rfl hl.1 (Nat.le_of_ble_eq_true rfl) dL_law_1589 (st1 := [.int (r)]) rfl (fun H hH => ?_)
  refine lv_aload_n hx hb dL_law_1592 rfl (lv_at hl 2 rfl) ?_
  refine la_arg (n := n) (j := 1) C hH.2.2 (lv_at hl 4 rfl) (lv_at hl 0 rfl) hn rfl (by decide) dL_law_1593 dL_law_1594 dL_law_1596 dL_law_1597 dL_law_1598 ?_
  refine la_arg (n := n) (j := 2) C hH.2.2 (lv_at hl 4 rfl) (lv_at hl 0 rfl) hn rfl (by decide) dL_law_1599 dL_law_1600 dL_law_1602 dL_law_1603 dL_law_1604 ?_
  refine la_arg (n := n) (j := 3) C hH.2.2 (lv_at hl 4 rfl) (lv_at hl 0 rfl) hn rfl (by decide) dL_law_1605 dL_law_1606 dL_law_1608 dL_law_1609 dL_law_1610 ?_
  refine lv_i2l (v := (xs (6 * n + 3)).toInt64) hx hb dL_law_1611 rfl ?_
  refine lv_bipush (v := (32 : Int32)) hx hb dL_law_1612 (by decide) ?_
  refine lv_lshl (v := (((xs (6 * n + 3)).toInt64) <<< (((32 : Int32)).toInt64 &&& 63))) hx hb dL_law_1614 rfl ?_
  refine la_arg (n := n) (j := 4) C hH.2.2 (lv_at hl 4 rfl) (lv_at hl 0 rfl) hn rfl (by decide) dL_law_1615 dL_law_1616 dL_law_1618 dL_law_1619 dL_law_1620 ?_
  refine lv_i2l (v := (xs (6 * n + 4)).toInt64) hx hb dL_law_1621 rfl ?_
  refine lv_ldc2 (v := (4294967295 : Int64)) hx hb X.1.2.2.2.1 (m_in X kq_L_172) dL_law_1622 ?_
  refine lv_land hx hb dL_law_1625 ?_
  refine lv_lor hx hb dL_law_1626 ?_
  refine la_V (k := 1000) (i := 0) (As := [.int (xs (6 * n + 1)), .int (xs (6 * n + 2)), .long ((((((xs (6 * n + 3)).toInt64) <<< (((32 : Int32)).toInt64 &&& 63))) ||| ((((xs (6 * n + 4)).toInt64) &&& ((4294967295 : Int64))))))]) (rest := [.int (r)]) X hG hH (c_X10_put l _ (En_l10 D cyf s.heap.size (s.heap.size + 75) tb (exs ks)) e2) ml_L_178 kv_X10_put (la_m X hH) rfl rfl ⟨Nat.le_of_ble_eq_true rfl, Nat.le_of_ble_eq_true rfl⟩ ⟨by omega, by omega⟩ rfl rfl hl.1 (Nat.le_of_ble_eq_true rfl) dL_law_1627 (st1 := [.int (r), .int (r)]) rfl (fun H hH => ?_)
  refine lv_icmp_eq (tgt := 1800) hx hb dL_law_1630 rfl (fun _ => ?_) (fun h => absurd rfl h)
  exact W.widen (by omega) (by omega) (kk tb ks μ2 g H ls ⟨hG, hH, hK.mv (ke1.tr ke2), hR2⟩ hl)
set_option maxHeartbeats 4000000 in
theorem la_at (C : LC p l s m c b L xs D cyf) (hn : 6 * n + 6 ≤ L) (hI : LI s D cyf tb ks μ g H) (hl : lv_has ls 8 (lcs s b (nI (6 * n)))) (hc : cells + 33 ≤ room_1.cells ∧ slots + 2800 ≤ room_1.slots)
    (kk : ∀ (tb : Nat → Nat) (ks : List Nat) (μ : Mm) (g : Nat → Int64) (H : Heap) (ls : Array Slot), LI s D cyf tb ks μ g H → lv_has ls 8 (lcs s b (nI (6 * n))) → W p l e room_1 s m #[.ref b] below meth c H [] (cells + 33) (slots + 2800) Q (F0 m 1800 ls [])) : W p l e room_1 s m #[.ref b] below meth c H [] cells slots Q (F0 m 1635 ls []) := by
  obtain ⟨hG, hH, hK, hR⟩ := hI
  have X := C.cx hG
  have hx := X.1.1
  have hb := X.1.2.1
  obtain ⟨k, v, r, μ1, μ2, e1, e2, hk, hv, -, hR2⟩ := op_at hR (xs (6 * n + 1)) (xs (6 * n + 2))
  have e1 : f_X9_at μ (xs (6 * n + 1)) (xs (6 * n + 2)) = some (k, v, μ1) := e1
  have e2 : f_X10_at μ1 (xs (6 * n + 1)) (xs (6 * n + 2)) = some (r, μ2) := e2
  have ke1 : KP μ μ1 := kp_X9_at e1
  have ke2 : KP μ1 μ2 := fun d => (fr_X10_at (by omega) e2).1
  refine lv_aload_n hx hb dL_law_1635 rfl (lv_at hl 3 rfl) ?_
  refine la_arg (n := n) (j := 1) C hH.2.2 (lv_at hl 4 rfl) (lv_at hl 0 rfl) hn rfl (by decide) dL_law_1636 dL_law_1637 dL_law_1639 dL_law_1640 dL_law_1641 ?_
  refine la_arg (n := n) (j := 2) C hH.2.2 (lv_at hl 4 rfl) (lv_at hl 0 rfl) hn rfl (by decide) dL_law_1642 dL_law_1643 dL_law_1645 dL_law_1646 dL_law_1647 ?_
  refine lv_aload_n hx hb dL_law_1648 rfl (lv_at hl 1 rfl) ?_
  refine la_S (np := 4) (k := k) (v := v) (As := [.ref (s.heap.size), .int (xs (6 * n + 1)), .int (xs (6 * n + 2)), .ref (s.heap.size + 113)]) (rest := []) X hG hH C.2.2.2.2.2.1 C.2.2.2.2.2.2.1 (c_L_at l C.2.2.2.2.2.2.2.1 (EL s D cyf tb ks) (F := 1000) (ao := s.heap.size + 113) (g := g) (En_l9 D cyf s.heap.size (s.heap.size + 75) tb (exs ks)) e1) ml_L_179 cw_L_at (T1_of 1157 (by decide +kernel) rfl) in_L (by decide +kernel) rfl rfl ⟨Nat.le_of_ble_eq_true rfl, Nat.le_of_ble_eq_true rfl⟩ ⟨by omega, by omega⟩ rfl rfl hl.1 (Nat.le_of_ble_eq_true rfl) dL_law_1649 (fun H g hg hH => ?_)
  refine lv_istore hx hb dL_law_1652 hl (by decide) rfl (fun ls hl => ?_)
  have hl : lv_has ls 8 ((5, .int k) :: lcs s b (nI (6 * n))) := hl
  refine lv_aload_n hx hb dL_law_1654 rfl (lv_at hl 3 rfl) ?_
  refine la_arg (n := n) (j := 1) C hH.2.2 (lv_at hl 5 rfl) (lv_at hl 1 rfl) hn rfl (by decide) dL_law_1655 dL_law_1656 dL_law_1658 dL_law_1659 dL_law_1660 ?_
  refine la_arg (n := n) (j := 2) C hH.2.2 (lv_at hl 5 rfl) (lv_at hl 1 rfl) hn rfl (by decide) dL_law_1661 dL_law_1662 dL_law_1664 dL_law_1665 dL_law_1666 ?_
  refine la_V (k := 1000) (i := 0) (As := [.int (xs (6 * n + 1)), .int (xs (6 * n + 2))]) (rest := []) X hG hH (c_X10_at l _ (En_l10 D cyf s.heap.size (s.heap.size + 75) tb (exs ks)) e2) ml_L_181 kv_X10_at (la_m X hH) rfl rfl ⟨Nat.le_of_ble_eq_true rfl, Nat.le_of_ble_eq_true rfl⟩ ⟨by omega, by omega⟩ rfl rfl hl.1 (Nat.le_of_ble_eq_true rfl) dL_law_1667 (st1 := [.long (r)]) rfl (fun H hH => ?_)
  refine lv_lstore hx hb dL_law_1670 hl (by decide) rfl (fun ls hl => ?_)
  have hl : lv_has ls 8 ((6, .long r) :: (5, .int k) :: lcs s b (nI (6 * n))) := hl
  refine lv_aload_n hx hb dL_law_1672 rfl (lv_at hl 4 rfl) ?_
  refine la_V (k := 1000) (i := 0) (As := []) (rest := []) X hG hH (c_X10_thrown l _ (En_l10 D cyf s.heap.size (s.heap.size + 75) tb (exs ks)) (show f_X10_thrown μ2 = some k from congrArg some hk)) ml_L_126 kv_X10_thrown (la_m X hH) rfl rfl ⟨Nat.le_of_ble_eq_true rfl, Nat.le_of_ble_eq_true rfl⟩ ⟨by omega, by omega⟩ rfl rfl hl.1 (Nat.le_of_ble_eq_true rfl) dL_law_1673 (st1 := [.int (k)]) rfl (fun H hH => ?_)
  refine lv_iload hx hb dL_law_1676 (lv_at hl 1 rfl) ?_
  refine lv_icmp_eq (tgt := 1683) hx hb dL_law_1678 rfl (fun _ => ?_) (fun h => absurd rfl h)
  refine lv_iload hx hb dL_law_1683 (lv_at hl 1 rfl) ?_
  have fin : ∀ q : Unit, W p l e room_1 s m #[.ref b] below meth c H [] (cells + 1) (slots + 6) Q (F0 m 1699 ls []) := fun _ => by
    refine lv_goto (tgt := 1800) hx hb dL_law_1699 rfl ?_
    exact W.widen (by omega) (by omega) (kk tb ks μ2 g H ls ⟨hG, hH, hK.mv (ke1.tr ke2), hR2⟩ ⟨hl.1, hl.2.1, fun q hq => hl.2.2 q (List.mem_cons_of_mem _ (List.mem_cons_of_mem _ hq))⟩)
  refine lv_if_ne (tgt := 1699) hx hb dL_law_1685 rfl (fun _ => fin ()) (fun h0 => ?_)
  refine lv_aload_n hx hb dL_law_1688 rfl (lv_at hl 3 rfl) ?_
  refine lv_iconst (v := (0 : Int32)) hx hb dL_law_1689 kc_0 ?_
  refine la_out X hH dL_law_1690 ?_
  refine lv_lload hx hb dL_law_1691 (lv_at hl 0 rfl) ?_
  rw [hg h0, hv h0]
  refine W.lcmp hx hb dL_law_1693 ?_
  rw [cmp_self]
  exact lv_if_eq (tgt := 1699) hx hb dL_law_1694 rfl (fun _ => fin ()) (fun h => absurd rfl h)
set_option maxHeartbeats 4000000 in
theorem la_copy (C : LC p l s m c b L xs D cyf) (hn : 6 * n + 6 ≤ L) (hI : LI s D cyf tb ks μ g H) (hl : lv_has ls 8 (lcs s b (nI (6 * n)))) (hc : cells + 33 ≤ room_1.cells ∧ slots + 2800 ≤ room_1.slots)
    (kk : ∀ (tb : Nat → Nat) (ks : List Nat) (μ : Mm) (g : Nat → Int64) (H : Heap) (ls : Array Slot), LI s D cyf tb ks μ g H → lv_has ls 8 (lcs s b (nI (6 * n))) → W p l e room_1 s m #[.ref b] below meth c H [] (cells + 33) (slots + 2800) Q (F0 m 1800 ls [])) : W p l e room_1 s m #[.ref b] below meth c H [] cells slots Q (F0 m 1702 ls []) := by
  obtain ⟨hG, hH, hK, hR⟩ := hI
  have X := C.cx hG
  have hx := X.1.1
  have hb := X.1.2.1
  obtain ⟨r, μ1, μ2, e1, e2, hR2⟩ := op_copy (F := 1000) (Nat.le_refl _) hR (xs (6 * n + 1)) (xs (6 * n + 2)) (xs (6 * n + 3)) (xs (6 * n + 4)) (xs (6 * n + 5))
  have e1 : f_X9_copy μ (xs (6 * n + 1)) (xs (6 * n + 2)) (xs (6 * n + 3)) (xs (6 * n + 4)) (xs (6 * n + 5)) = some (r, μ1) := e1
  have e2 : f_X10_copy 1000 μ1 (xs (6 * n + 1)) (xs (6 * n + 2)) (xs (6 * n + 3)) (xs (6 * n + 4)) (xs (6 * n + 5)) = some (r, μ2) := e2
  have ke1 : KP μ μ1 := fun d => (fr_X9_copy (by omega) (by omega) e1).1
  have ke2 : KP μ1 μ2 := fun d => (fr_X10_copy (by omega) (by omega) (by omega) e2).1
  refine lv_aload_n hx hb dL_law_1702 rfl (lv_at hl 3 rfl) ?_
  refine la_arg (n := n) (j := 1) C hH.2.2 (lv_at hl 4 rfl) (lv_at hl 0 rfl) hn rfl (by decide) dL_law_1703 dL_law_1704 dL_law_1706 dL_law_1707 dL_law_1708 ?_
  refine la_arg (n := n) (j := 2) C hH.2.2 (lv_at hl 4 rfl) (lv_at hl 0 rfl) hn rfl (by decide) dL_law_1709 dL_law_1710 dL_law_1712 dL_law_1713 dL_law_1714 ?_
  refine la_arg (n := n) (j := 3) C hH.2.2 (lv_at hl 4 rfl) (lv_at hl 0 rfl) hn rfl (by decide) dL_law_1715 dL_law_1716 dL_law_1718 dL_law_1719 dL_law_1720 ?_
  refine la_arg (n := n) (j := 4) C hH.2.2 (lv_at hl 4 rfl) (lv_at hl 0 rfl) hn rfl (by decide) dL_law_1721 dL_law_1722 dL_law_1724 dL_law_1725 dL_law_1726 ?_
  refine la_arg (n := n) (j := 5) C hH.2.2 (lv_at hl 4 rfl) (lv_at hl 0 rfl) hn rfl (by decide) dL_law_1727 dL_law_1728 dL_law_1730 dL_law_1731 dL_law_1732 ?_
  refine la_V (k := 900) (i := 0) (As := [.int (xs (6 * n + 1)), .int (xs (6 * n + 2)), .int (xs (6 * n + 3)), .int (xs (6 * n + 4)), .int (xs (6 * n + 5))]) (rest := []) X hG hH (c_X9_copy l _ (En_l9 D cyf s.heap.size (s.heap.size + 75) tb (exs ks)) e1) ml_L_182 kv_X9_copy (la_x X hH) rfl rfl ⟨Nat.le_of_ble_eq_true rfl, Nat.le_of_ble_eq_true rfl⟩ ⟨by omega, by omega⟩ rfl rfl hl.1 (Nat.le_of_ble_eq_true rfl) dL_law_1733 (st1 := [.int (r)]) rfl (fun H hH => ?_)
  refine lv_aload_n hx hb dL_law_1736 rfl (lv_at hl 2 rfl) ?_
  refine la_arg (n := n) (j := 1) C hH.2.2 (lv_at hl 4 rfl) (lv_at hl 0 rfl) hn rfl (by decide) dL_law_1737 dL_law_1738 dL_law_1740 dL_law_1741 dL_law_1742 ?_
  refine la_arg (n := n) (j := 2) C hH.2.2 (lv_at hl 4 rfl) (lv_at hl 0 rfl) hn rfl (by decide) dL_law_1743 dL_law_1744 dL_law_1746 dL_law_1747 dL_law_1748 ?_
  refine la_arg (n := n) (j := 3) C hH.2.2 (lv_at hl 4 rfl) (lv_at hl 0 rfl) hn rfl (by decide) dL_law_1749 dL_law_1750 dL_law_1752 dL_law_1753 dL_law_1754 ?_
  refine la_arg (n := n) (j := 4) C hH.2.2 (lv_at hl 4 rfl) (lv_at hl 0 rfl) hn rfl (by decide) dL_law_1755 dL_law_1756 dL_law_1758 dL_law_1759 dL_law_1760 ?_
  refine la_arg (n := n) (j := 5) C hH.2.2 (lv_at hl 4 rfl) (lv_at hl 0 rfl) hn rfl (by decide) dL_law_1761 dL_law_1762 dL_law_1764 dL_law_1765 dL_law_1766 ?_
  refine la_V (k := 1000) (i := 0) (As := [.int (xs (6 * n + 1)), .int (xs (6 * n + 2)), .int (xs (6 * n + 3)), .int (xs (6 * n + 4)), .int (xs (6 * n + 5))]) (rest := [.int (r)]) X hG hH (c_X10_copy l _ (En_l10 D cyf s.heap.size (s.heap.size + 75) tb (exs ks)) e2) ml_L_185 kv_X10_copy (la_m X hH) rfl rfl ⟨Nat.le_of_ble_eq_true rfl, Nat.le_of_ble_eq_true rfl⟩ ⟨by omega, by omega⟩ rfl rfl hl.1 (Nat.le_of_ble_eq_true rfl) dL_law_1767 (st1 := [.int (r), .int (r)]) rfl (fun H hH => ?_)
  refine lv_icmp_eq (tgt := 1800) hx hb dL_law_1770 rfl (fun _ => ?_) (fun h => absurd rfl h)
  exact W.widen (by omega) (by omega) (kk tb ks μ2 g H ls ⟨hG, hH, hK.mv (ke1.tr ke2), hR2⟩ hl)
set_option maxHeartbeats 4000000 in
theorem la_count (C : LC p l s m c b L xs D cyf) (hn : 6 * n + 6 ≤ L) (hI : LI s D cyf tb ks μ g H) (hl : lv_has ls 8 (lcs s b (nI (6 * n)))) (hc : cells + 33 ≤ room_1.cells ∧ slots + 2800 ≤ room_1.slots)
    (kk : ∀ (tb : Nat → Nat) (ks : List Nat) (μ : Mm) (g : Nat → Int64) (H : Heap) (ls : Array Slot), LI s D cyf tb ks μ g H → lv_has ls 8 (lcs s b (nI (6 * n))) → W p l e room_1 s m #[.ref b] below meth c H [] (cells + 33) (slots + 2800) Q (F0 m 1800 ls [])) : W p l e room_1 s m #[.ref b] below meth c H [] cells slots Q (F0 m 1775 ls []) := by
  obtain ⟨hG, hH, hK, hR⟩ := hI
  have X := C.cx hG
  have hx := X.1.1
  have hb := X.1.2.1
  obtain ⟨r, e1, e2⟩ := op_count (F := 1000) (Nat.le_refl _) hR (xs (6 * n + 1))
  have e1 : f_X9_count 1000 μ (xs (6 * n + 1)) = some r := e1
  have e2 : f_X10_count μ (xs (6 * n + 1)) = some r := e2
  refine lv_aload_n hx hb dL_law_1775 rfl (lv_at hl 3 rfl) ?_
  refine la_arg (n := n) (j := 1) C hH.2.2 (lv_at hl 4 rfl) (lv_at hl 0 rfl) hn rfl (by decide) dL_law_1776 dL_law_1777 dL_law_1779 dL_law_1780 dL_law_1781 ?_
  refine la_V (k := 900) (i := 0) (As := [.int (xs (6 * n + 1))]) (rest := []) X hG hH (c_X9_count l _ (En_l9 D cyf s.heap.size (s.heap.size + 75) tb (exs ks)) e1) ml_L_186 kv_X9_count (la_x X hH) rfl rfl ⟨Nat.le_of_ble_eq_true rfl, Nat.le_of_ble_eq_true rfl⟩ ⟨by omega, by omega⟩ rfl rfl hl.1 (Nat.le_of_ble_eq_true rfl) dL_law_1782 (st1 := [.int (r)]) rfl (fun H hH => ?_)
  refine lv_aload_n hx hb dL_law_1785 rfl (lv_at hl 2 rfl) ?_
  refine la_arg (n := n) (j := 1) C hH.2.2 (lv_at hl 4 rfl) (lv_at hl 0 rfl) hn rfl (by decide) dL_law_1786 dL_law_1787 dL_law_1789 dL_law_1790 dL_law_1791 ?_
  refine la_V (k := 1000) (i := 0) (As := [.int (xs (6 * n + 1))]) (rest := [.int (r)]) X hG hH (c_X10_count l _ (En_l10 D cyf s.heap.size (s.heap.size + 75) tb (exs ks)) e2) ml_L_189 kv_X10_count (la_m X hH) rfl rfl ⟨Nat.le_of_ble_eq_true rfl, Nat.le_of_ble_eq_true rfl⟩ ⟨by omega, by omega⟩ rfl rfl hl.1 (Nat.le_of_ble_eq_true rfl) dL_law_1792 (st1 := [.int (r), .int (r)]) rfl (fun H hH => ?_)
  refine lv_icmp_eq (tgt := 1800) hx hb dL_law_1795 rfl (fun _ => ?_) (fun h => absurd rfl h)
  exact W.widen (by omega) (by omega) (kk tb ks μ g H ls ⟨hG, hH, hK, hR⟩ hl)
end CS
