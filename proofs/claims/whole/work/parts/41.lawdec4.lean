theorem d_Lw_law_1246 : decode code 1246 = .ok (.aload_n 2, 1) := by decide +kernel
theorem d_Lw_law_1247 : decode code 1247 = .ok (.aload_n 0, 1) := by decide +kernel
theorem d_Lw_law_1248 : decode code 1248 = .ok (.iload_n 3, 1) := by decide +kernel
theorem d_Lw_law_1249 : decode code 1249 = .ok (.iconst 1, 1) := by decide +kernel
theorem d_Lw_law_1250 : decode code 1250 = .ok (.iadd, 1) := by decide +kernel
theorem d_Lw_law_1251 : decode code 1251 = .ok (.iaload, 1) := by decide +kernel
theorem d_Lw_law_1252 : decode code 1252 = .ok (.aload_n 0, 1) := by decide +kernel
theorem d_Lw_law_1253 : decode code 1253 = .ok (.iload_n 3, 1) := by decide +kernel
theorem d_Lw_law_1254 : decode code 1254 = .ok (.iconst 2, 1) := by decide +kernel
theorem d_Lw_law_1255 : decode code 1255 = .ok (.iadd, 1) := by decide +kernel
theorem d_Lw_law_1256 : decode code 1256 = .ok (.iaload, 1) := by decide +kernel
theorem d_Lw_law_1257 : decode code 1257 = .ok (.aload_n 0, 1) := by decide +kernel
theorem d_Lw_law_1258 : decode code 1258 = .ok (.iload_n 3, 1) := by decide +kernel
theorem d_Lw_law_1259 : decode code 1259 = .ok (.iconst 3, 1) := by decide +kernel
theorem d_Lw_law_1260 : decode code 1260 = .ok (.iadd, 1) := by decide +kernel
theorem d_Lw_law_1261 : decode code 1261 = .ok (.iaload, 1) := by decide +kernel
theorem d_Lw_law_1262 : decode code 1262 = .ok (.aload_n 0, 1) := by decide +kernel
theorem d_Lw_law_1263 : decode code 1263 = .ok (.iload_n 3, 1) := by decide +kernel
theorem d_Lw_law_1264 : decode code 1264 = .ok (.iconst 4, 1) := by decide +kernel
theorem d_Lw_law_1265 : decode code 1265 = .ok (.iadd, 1) := by decide +kernel
theorem d_Lw_law_1266 : decode code 1266 = .ok (.iaload, 1) := by decide +kernel
theorem d_Lw_law_1267 : decode code 1267 = .ok (.invokevirtual 126, 3) := by decide +kernel
theorem d_Lw_law_1273 : decode code 1273 = .ok (.iconst 0, 1) := by decide +kernel
theorem d_Lw_law_1274 : decode code 1274 = .ok (.ireturn, 1) := by decide +kernel
theorem d_Lw_law_1270 : decode code 1270 = .ok (.if_icmp .eq 279, 3) := by decide +kernel
theorem d_Lw_law_1275 : decode code 1275 = .ok (.aload_n 1, 1) := by decide +kernel
theorem d_Lw_law_1276 : decode code 1276 = .ok (.invokevirtual 127, 3) := by decide +kernel
theorem d_Lw_law_1279 : decode code 1279 = .ok (.aload_n 2, 1) := by decide +kernel
theorem d_Lw_law_1280 : decode code 1280 = .ok (.invokevirtual 130, 3) := by decide +kernel
theorem d_Lw_law_1286 : decode code 1286 = .ok (.iconst 0, 1) := by decide +kernel
theorem d_Lw_law_1287 : decode code 1287 = .ok (.ireturn, 1) := by decide +kernel
theorem d_Lw_law_1283 : decode code 1283 = .ok (.if_icmp .eq 266, 3) := by decide +kernel
theorem d_Lw_law_1288 : decode code 1288 = .ok (.aload_n 1, 1) := by decide +kernel
theorem d_Lw_law_1289 : decode code 1289 = .ok (.aload_n 0, 1) := by decide +kernel
theorem d_Lw_law_1290 : decode code 1290 = .ok (.iload_n 3, 1) := by decide +kernel
theorem d_Lw_law_1291 : decode code 1291 = .ok (.iconst 1, 1) := by decide +kernel
theorem d_Lw_law_1292 : decode code 1292 = .ok (.iadd, 1) := by decide +kernel
theorem d_Lw_law_1293 : decode code 1293 = .ok (.iaload, 1) := by decide +kernel
theorem d_Lw_law_1294 : decode code 1294 = .ok (.aload_n 0, 1) := by decide +kernel
theorem d_Lw_law_1295 : decode code 1295 = .ok (.iload_n 3, 1) := by decide +kernel
theorem d_Lw_law_1296 : decode code 1296 = .ok (.iconst 2, 1) := by decide +kernel
theorem d_Lw_law_1297 : decode code 1297 = .ok (.iadd, 1) := by decide +kernel
theorem d_Lw_law_1298 : decode code 1298 = .ok (.iaload, 1) := by decide +kernel
theorem d_Lw_law_1299 : decode code 1299 = .ok (.invokevirtual 131, 3) := by decide +kernel
theorem d_Lw_law_1302 : decode code 1302 = .ok (.aload_n 2, 1) := by decide +kernel
theorem d_Lw_law_1303 : decode code 1303 = .ok (.aload_n 0, 1) := by decide +kernel
theorem d_Lw_law_1304 : decode code 1304 = .ok (.iload_n 3, 1) := by decide +kernel
theorem d_Lw_law_1305 : decode code 1305 = .ok (.iconst 1, 1) := by decide +kernel
theorem d_Lw_law_1306 : decode code 1306 = .ok (.iadd, 1) := by decide +kernel
theorem d_Lw_law_1307 : decode code 1307 = .ok (.iaload, 1) := by decide +kernel
theorem d_Lw_law_1308 : decode code 1308 = .ok (.aload_n 0, 1) := by decide +kernel
theorem d_Lw_law_1309 : decode code 1309 = .ok (.iload_n 3, 1) := by decide +kernel
theorem d_Lw_law_1310 : decode code 1310 = .ok (.iconst 2, 1) := by decide +kernel
theorem d_Lw_law_1311 : decode code 1311 = .ok (.iadd, 1) := by decide +kernel
theorem d_Lw_law_1312 : decode code 1312 = .ok (.iaload, 1) := by decide +kernel
theorem d_Lw_law_1313 : decode code 1313 = .ok (.invokevirtual 134, 3) := by decide +kernel
theorem d_Lw_law_1319 : decode code 1319 = .ok (.iconst 0, 1) := by decide +kernel
theorem d_Lw_law_1320 : decode code 1320 = .ok (.ireturn, 1) := by decide +kernel
theorem d_Lw_law_1316 : decode code 1316 = .ok (.if_icmp .eq 233, 3) := by decide +kernel
theorem d_Lw_law_1321 : decode code 1321 = .ok (.aload_n 1, 1) := by decide +kernel
theorem d_Lw_law_1322 : decode code 1322 = .ok (.aload_n 0, 1) := by decide +kernel
theorem d_Lw_law_1323 : decode code 1323 = .ok (.iload_n 3, 1) := by decide +kernel
theorem d_Lw_law_1324 : decode code 1324 = .ok (.iconst 1, 1) := by decide +kernel
theorem d_Lw_law_1325 : decode code 1325 = .ok (.iadd, 1) := by decide +kernel
theorem d_Lw_law_1326 : decode code 1326 = .ok (.iaload, 1) := by decide +kernel
theorem d_Lw_law_1327 : decode code 1327 = .ok (.invokevirtual 135, 3) := by decide +kernel
theorem d_Lw_law_1330 : decode code 1330 = .ok (.aload_n 2, 1) := by decide +kernel
theorem d_Lw_law_1331 : decode code 1331 = .ok (.aload_n 0, 1) := by decide +kernel
theorem d_Lw_law_1332 : decode code 1332 = .ok (.iload_n 3, 1) := by decide +kernel
theorem d_Lw_law_1333 : decode code 1333 = .ok (.iconst 1, 1) := by decide +kernel
theorem d_Lw_law_1334 : decode code 1334 = .ok (.iadd, 1) := by decide +kernel
theorem d_Lw_law_1335 : decode code 1335 = .ok (.iaload, 1) := by decide +kernel
theorem d_Lw_law_1336 : decode code 1336 = .ok (.invokevirtual 138, 3) := by decide +kernel
theorem d_Lw_law_1342 : decode code 1342 = .ok (.iconst 0, 1) := by decide +kernel
theorem d_Lw_law_1343 : decode code 1343 = .ok (.ireturn, 1) := by decide +kernel
theorem d_Lw_law_1339 : decode code 1339 = .ok (.if_icmp .eq 210, 3) := by decide +kernel
theorem d_Lw_law_1344 : decode code 1344 = .ok (.aload_n 1, 1) := by decide +kernel
theorem d_Lw_law_1345 : decode code 1345 = .ok (.aload_n 0, 1) := by decide +kernel
theorem d_Lw_law_1346 : decode code 1346 = .ok (.iload_n 3, 1) := by decide +kernel
theorem d_Lw_law_1347 : decode code 1347 = .ok (.iconst 1, 1) := by decide +kernel
theorem d_Lw_law_1348 : decode code 1348 = .ok (.iadd, 1) := by decide +kernel
theorem d_Lw_law_1349 : decode code 1349 = .ok (.iaload, 1) := by decide +kernel
theorem d_Lw_law_1350 : decode code 1350 = .ok (.invokevirtual 139, 3) := by decide +kernel
theorem d_Lw_law_1353 : decode code 1353 = .ok (.aload_n 2, 1) := by decide +kernel
theorem d_Lw_law_1354 : decode code 1354 = .ok (.aload_n 0, 1) := by decide +kernel
theorem d_Lw_law_1355 : decode code 1355 = .ok (.iload_n 3, 1) := by decide +kernel
theorem d_Lw_law_1356 : decode code 1356 = .ok (.iconst 1, 1) := by decide +kernel
theorem d_Lw_law_1357 : decode code 1357 = .ok (.iadd, 1) := by decide +kernel
theorem d_Lw_law_1358 : decode code 1358 = .ok (.iaload, 1) := by decide +kernel
theorem d_Lw_law_1359 : decode code 1359 = .ok (.invokevirtual 142, 3) := by decide +kernel
theorem d_Lw_law_1365 : decode code 1365 = .ok (.iconst 0, 1) := by decide +kernel
theorem d_Lw_law_1366 : decode code 1366 = .ok (.ireturn, 1) := by decide +kernel
theorem d_Lw_law_1362 : decode code 1362 = .ok (.if_icmp .eq 187, 3) := by decide +kernel
theorem d_Lw_law_1367 : decode code 1367 = .ok (.aload_n 1, 1) := by decide +kernel
theorem d_Lw_law_1368 : decode code 1368 = .ok (.aload_n 0, 1) := by decide +kernel
theorem d_Lw_law_1369 : decode code 1369 = .ok (.iload_n 3, 1) := by decide +kernel
theorem d_Lw_law_1370 : decode code 1370 = .ok (.iconst 1, 1) := by decide +kernel
theorem d_Lw_law_1371 : decode code 1371 = .ok (.iadd, 1) := by decide +kernel
theorem d_Lw_law_1372 : decode code 1372 = .ok (.iaload, 1) := by decide +kernel
theorem d_Lw_law_1373 : decode code 1373 = .ok (.invokevirtual 143, 3) := by decide +kernel
theorem d_Lw_law_1376 : decode code 1376 = .ok (.aload_n 2, 1) := by decide +kernel
theorem d_Lw_law_1377 : decode code 1377 = .ok (.aload_n 0, 1) := by decide +kernel
theorem d_Lw_law_1378 : decode code 1378 = .ok (.iload_n 3, 1) := by decide +kernel
theorem d_Lw_law_1379 : decode code 1379 = .ok (.iconst 1, 1) := by decide +kernel
theorem d_Lw_law_1380 : decode code 1380 = .ok (.iadd, 1) := by decide +kernel
theorem d_Lw_law_1381 : decode code 1381 = .ok (.iaload, 1) := by decide +kernel
theorem d_Lw_law_1382 : decode code 1382 = .ok (.invokevirtual 146, 3) := by decide +kernel
theorem d_Lw_law_1388 : decode code 1388 = .ok (.iconst 0, 1) := by decide +kernel
theorem d_Lw_law_1389 : decode code 1389 = .ok (.ireturn, 1) := by decide +kernel
theorem d_Lw_law_1385 : decode code 1385 = .ok (.if_icmp .eq 164, 3) := by decide +kernel
theorem d_Lw_law_1390 : decode code 1390 = .ok (.aload_n 1, 1) := by decide +kernel
theorem d_Lw_law_1391 : decode code 1391 = .ok (.aload_n 0, 1) := by decide +kernel
theorem d_Lw_law_1392 : decode code 1392 = .ok (.iload_n 3, 1) := by decide +kernel
theorem d_Lw_law_1393 : decode code 1393 = .ok (.iconst 1, 1) := by decide +kernel
theorem d_Lw_law_1394 : decode code 1394 = .ok (.iadd, 1) := by decide +kernel
theorem d_Lw_law_1395 : decode code 1395 = .ok (.iaload, 1) := by decide +kernel
theorem d_Lw_law_1396 : decode code 1396 = .ok (.aload_n 0, 1) := by decide +kernel
theorem d_Lw_law_1397 : decode code 1397 = .ok (.iload_n 3, 1) := by decide +kernel
theorem d_Lw_law_1398 : decode code 1398 = .ok (.iconst 2, 1) := by decide +kernel
theorem d_Lw_law_1399 : decode code 1399 = .ok (.iadd, 1) := by decide +kernel
theorem d_Lw_law_1400 : decode code 1400 = .ok (.iaload, 1) := by decide +kernel
theorem d_Lw_law_1401 : decode code 1401 = .ok (.aload_n 0, 1) := by decide +kernel
theorem d_Lw_law_1402 : decode code 1402 = .ok (.iload_n 3, 1) := by decide +kernel
theorem d_Lw_law_1403 : decode code 1403 = .ok (.iconst 3, 1) := by decide +kernel
theorem d_Lw_law_1404 : decode code 1404 = .ok (.iadd, 1) := by decide +kernel
theorem d_Lw_law_1405 : decode code 1405 = .ok (.iaload, 1) := by decide +kernel
theorem d_Lw_law_1406 : decode code 1406 = .ok (.invokevirtual 147, 3) := by decide +kernel
theorem d_Lw_law_1409 : decode code 1409 = .ok (.aload_n 2, 1) := by decide +kernel
theorem d_Lw_law_1410 : decode code 1410 = .ok (.aload_n 0, 1) := by decide +kernel
theorem d_Lw_law_1411 : decode code 1411 = .ok (.iload_n 3, 1) := by decide +kernel
theorem d_Lw_law_1412 : decode code 1412 = .ok (.iconst 1, 1) := by decide +kernel
theorem d_Lw_law_1413 : decode code 1413 = .ok (.iadd, 1) := by decide +kernel
theorem d_Lw_law_1414 : decode code 1414 = .ok (.iaload, 1) := by decide +kernel
theorem d_Lw_law_1415 : decode code 1415 = .ok (.aload_n 0, 1) := by decide +kernel
theorem d_Lw_law_1416 : decode code 1416 = .ok (.iload_n 3, 1) := by decide +kernel
theorem d_Lw_law_1417 : decode code 1417 = .ok (.iconst 2, 1) := by decide +kernel
theorem d_Lw_law_1418 : decode code 1418 = .ok (.iadd, 1) := by decide +kernel
theorem d_Lw_law_1419 : decode code 1419 = .ok (.iaload, 1) := by decide +kernel
theorem d_Lw_law_1420 : decode code 1420 = .ok (.aload_n 0, 1) := by decide +kernel
theorem d_Lw_law_1421 : decode code 1421 = .ok (.iload_n 3, 1) := by decide +kernel
theorem d_Lw_law_1422 : decode code 1422 = .ok (.iconst 3, 1) := by decide +kernel
theorem d_Lw_law_1423 : decode code 1423 = .ok (.iadd, 1) := by decide +kernel
theorem d_Lw_law_1424 : decode code 1424 = .ok (.iaload, 1) := by decide +kernel
theorem d_Lw_law_1425 : decode code 1425 = .ok (.invokevirtual 151, 3) := by decide +kernel
theorem d_Lw_law_1428 : decode code 1428 = .ok (.lcmp, 1) := by decide +kernel
theorem d_Lw_law_1432 : decode code 1432 = .ok (.iconst 0, 1) := by decide +kernel
theorem d_Lw_law_1433 : decode code 1433 = .ok (.ireturn, 1) := by decide +kernel
theorem d_Lw_law_1429 : decode code 1429 = .ok (.ifCond .eq 120, 3) := by decide +kernel
theorem d_Lw_law_1434 : decode code 1434 = .ok (.aload_n 1, 1) := by decide +kernel
theorem d_Lw_law_1435 : decode code 1435 = .ok (.aload_n 0, 1) := by decide +kernel
theorem d_Lw_law_1436 : decode code 1436 = .ok (.iload_n 3, 1) := by decide +kernel
theorem d_Lw_law_1437 : decode code 1437 = .ok (.iconst 1, 1) := by decide +kernel
theorem d_Lw_law_1438 : decode code 1438 = .ok (.iadd, 1) := by decide +kernel
theorem d_Lw_law_1439 : decode code 1439 = .ok (.iaload, 1) := by decide +kernel
theorem d_Lw_law_1440 : decode code 1440 = .ok (.invokevirtual 152, 3) := by decide +kernel
theorem d_Lw_law_1443 : decode code 1443 = .ok (.aload_n 2, 1) := by decide +kernel
theorem d_Lw_law_1444 : decode code 1444 = .ok (.aload_n 0, 1) := by decide +kernel
theorem d_Lw_law_1445 : decode code 1445 = .ok (.iload_n 3, 1) := by decide +kernel
theorem d_Lw_law_1446 : decode code 1446 = .ok (.iconst 1, 1) := by decide +kernel
theorem d_Lw_law_1447 : decode code 1447 = .ok (.iadd, 1) := by decide +kernel
theorem d_Lw_law_1448 : decode code 1448 = .ok (.iaload, 1) := by decide +kernel
theorem d_Lw_law_1449 : decode code 1449 = .ok (.invokevirtual 155, 3) := by decide +kernel
theorem d_Lw_law_1455 : decode code 1455 = .ok (.iconst 0, 1) := by decide +kernel
theorem d_Lw_law_1456 : decode code 1456 = .ok (.ireturn, 1) := by decide +kernel
theorem d_Lw_law_1452 : decode code 1452 = .ok (.if_icmp .eq 97, 3) := by decide +kernel
theorem d_Lw_law_1457 : decode code 1457 = .ok (.aload_n 1, 1) := by decide +kernel
theorem d_Lw_law_1458 : decode code 1458 = .ok (.invokevirtual 156, 3) := by decide +kernel
theorem d_Lw_law_1461 : decode code 1461 = .ok (.aload_n 2, 1) := by decide +kernel
theorem d_Lw_law_1462 : decode code 1462 = .ok (.invokevirtual 159, 3) := by decide +kernel
theorem d_Lw_law_1468 : decode code 1468 = .ok (.iconst 0, 1) := by decide +kernel
theorem d_Lw_law_1469 : decode code 1469 = .ok (.ireturn, 1) := by decide +kernel
theorem d_Lw_law_1465 : decode code 1465 = .ok (.if_icmp .eq 84, 3) := by decide +kernel
theorem d_Lw_law_1470 : decode code 1470 = .ok (.aload_n 1, 1) := by decide +kernel
theorem d_Lw_law_1471 : decode code 1471 = .ok (.invokevirtual 160, 3) := by decide +kernel
theorem d_Lw_law_1474 : decode code 1474 = .ok (.aload_n 2, 1) := by decide +kernel
theorem d_Lw_law_1475 : decode code 1475 = .ok (.invokevirtual 164, 3) := by decide +kernel
theorem d_Lw_law_1481 : decode code 1481 = .ok (.iconst 0, 1) := by decide +kernel
theorem d_Lw_law_1482 : decode code 1482 = .ok (.ireturn, 1) := by decide +kernel
theorem d_Lw_law_1478 : decode code 1478 = .ok (.if_icmp .eq 71, 3) := by decide +kernel
theorem d_Lw_law_1483 : decode code 1483 = .ok (.aload_n 1, 1) := by decide +kernel
theorem d_Lw_law_1484 : decode code 1484 = .ok (.aload_n 0, 1) := by decide +kernel
theorem d_Lw_law_1485 : decode code 1485 = .ok (.iload_n 3, 1) := by decide +kernel
theorem d_Lw_law_1486 : decode code 1486 = .ok (.iconst 1, 1) := by decide +kernel
theorem d_Lw_law_1487 : decode code 1487 = .ok (.iadd, 1) := by decide +kernel
theorem d_Lw_law_1488 : decode code 1488 = .ok (.iaload, 1) := by decide +kernel
theorem d_Lw_law_1489 : decode code 1489 = .ok (.aload_n 0, 1) := by decide +kernel
theorem d_Lw_law_1490 : decode code 1490 = .ok (.iload_n 3, 1) := by decide +kernel
theorem d_Lw_law_1491 : decode code 1491 = .ok (.iconst 2, 1) := by decide +kernel
theorem d_Lw_law_1492 : decode code 1492 = .ok (.iadd, 1) := by decide +kernel
theorem d_Lw_law_1493 : decode code 1493 = .ok (.iaload, 1) := by decide +kernel
theorem d_Lw_law_1494 : decode code 1494 = .ok (.aload_n 0, 1) := by decide +kernel
theorem d_Lw_law_1495 : decode code 1495 = .ok (.iload_n 3, 1) := by decide +kernel
theorem d_Lw_law_1496 : decode code 1496 = .ok (.iconst 3, 1) := by decide +kernel
theorem d_Lw_law_1497 : decode code 1497 = .ok (.iadd, 1) := by decide +kernel
theorem d_Lw_law_1498 : decode code 1498 = .ok (.iaload, 1) := by decide +kernel
theorem d_Lw_law_1499 : decode code 1499 = .ok (.invokevirtual 165, 3) := by decide +kernel
theorem d_Lw_law_1502 : decode code 1502 = .ok (.aload_n 2, 1) := by decide +kernel
theorem d_Lw_law_1503 : decode code 1503 = .ok (.aload_n 0, 1) := by decide +kernel
theorem d_Lw_law_1504 : decode code 1504 = .ok (.iload_n 3, 1) := by decide +kernel
theorem d_Lw_law_1505 : decode code 1505 = .ok (.iconst 1, 1) := by decide +kernel
theorem d_Lw_law_1506 : decode code 1506 = .ok (.iadd, 1) := by decide +kernel
theorem d_Lw_law_1507 : decode code 1507 = .ok (.iaload, 1) := by decide +kernel
theorem d_Lw_law_1508 : decode code 1508 = .ok (.aload_n 0, 1) := by decide +kernel
theorem d_Lw_law_1509 : decode code 1509 = .ok (.iload_n 3, 1) := by decide +kernel
theorem d_Lw_law_1510 : decode code 1510 = .ok (.iconst 2, 1) := by decide +kernel
theorem d_Lw_law_1511 : decode code 1511 = .ok (.iadd, 1) := by decide +kernel
theorem d_Lw_law_1512 : decode code 1512 = .ok (.iaload, 1) := by decide +kernel
theorem d_Lw_law_1513 : decode code 1513 = .ok (.aload_n 0, 1) := by decide +kernel
theorem d_Lw_law_1514 : decode code 1514 = .ok (.iload_n 3, 1) := by decide +kernel
theorem d_Lw_law_1515 : decode code 1515 = .ok (.iconst 3, 1) := by decide +kernel
theorem d_Lw_law_1516 : decode code 1516 = .ok (.iadd, 1) := by decide +kernel
theorem d_Lw_law_1517 : decode code 1517 = .ok (.iaload, 1) := by decide +kernel
theorem d_Lw_law_1518 : decode code 1518 = .ok (.invokevirtual 168, 3) := by decide +kernel
theorem d_Lw_law_1524 : decode code 1524 = .ok (.iconst 0, 1) := by decide +kernel
theorem d_Lw_law_1525 : decode code 1525 = .ok (.ireturn, 1) := by decide +kernel
theorem d_Lw_law_1521 : decode code 1521 = .ok (.if_icmp .eq 28, 3) := by decide +kernel
theorem d_Lw_law_1526 : decode code 1526 = .ok (.aload_n 1, 1) := by decide +kernel
theorem d_Lw_law_1527 : decode code 1527 = .ok (.aload_n 0, 1) := by decide +kernel
theorem d_Lw_law_1528 : decode code 1528 = .ok (.iload_n 3, 1) := by decide +kernel
theorem d_Lw_law_1529 : decode code 1529 = .ok (.iconst 1, 1) := by decide +kernel
theorem d_Lw_law_1530 : decode code 1530 = .ok (.iadd, 1) := by decide +kernel
theorem d_Lw_law_1531 : decode code 1531 = .ok (.iaload, 1) := by decide +kernel
theorem d_Lw_law_1532 : decode code 1532 = .ok (.invokevirtual 169, 3) := by decide +kernel
theorem d_Lw_law_1535 : decode code 1535 = .ok (.aload_n 2, 1) := by decide +kernel
theorem d_Lw_law_1536 : decode code 1536 = .ok (.aload_n 0, 1) := by decide +kernel
theorem d_Lw_law_1537 : decode code 1537 = .ok (.iload_n 3, 1) := by decide +kernel
theorem d_Lw_law_1538 : decode code 1538 = .ok (.iconst 1, 1) := by decide +kernel
theorem d_Lw_law_1539 : decode code 1539 = .ok (.iadd, 1) := by decide +kernel
theorem d_Lw_law_1540 : decode code 1540 = .ok (.iaload, 1) := by decide +kernel
theorem d_Lw_law_1541 : decode code 1541 = .ok (.invokevirtual 172, 3) := by decide +kernel
theorem d_Lw_law_1547 : decode code 1547 = .ok (.iconst 0, 1) := by decide +kernel
theorem d_Lw_law_1548 : decode code 1548 = .ok (.ireturn, 1) := by decide +kernel
theorem d_Lw_law_1544 : decode code 1544 = .ok (.if_icmp .eq 5, 3) := by decide +kernel
theorem d_Lw_law_33 : decode code 33 = .ok (.tableswitch 1516 0 36 #[163, 226, 249, 312, 375, 398, 441, 464, 497, 530, 573, 616, 649, 683, 726, 749, 792, 845, 888, 941, 984, 1087, 1110, 1123, 1156, 1189, 1242, 1255, 1288, 1311, 1334, 1357, 1401, 1424, 1437, 1450, 1493], 163) := by decide +kernel
theorem d_Lw_law_24 : decode code 24 = .ok (.if_icmp .gt 1531, 3) := by decide +kernel
