theorem dL_law_1317 : decode cL_law 1317 = .ok (.aload_n 0, 1) := by decide +kernel
theorem dL_law_1318 : decode cL_law 1318 = .ok (.iload_n 3, 1) := by decide +kernel
theorem dL_law_1319 : decode cL_law 1319 = .ok (.iconst 3, 1) := by decide +kernel
theorem dL_law_1320 : decode cL_law 1320 = .ok (.iadd, 1) := by decide +kernel
theorem dL_law_1321 : decode cL_law 1321 = .ok (.iaload, 1) := by decide +kernel
theorem dL_law_1322 : decode cL_law 1322 = .ok (.i2l, 1) := by decide +kernel
theorem dL_law_1323 : decode cL_law 1323 = .ok (.bipush 32, 2) := by decide +kernel
theorem dL_law_1325 : decode cL_law 1325 = .ok (.lshl, 1) := by decide +kernel
theorem dL_law_1326 : decode cL_law 1326 = .ok (.aload_n 0, 1) := by decide +kernel
theorem dL_law_1327 : decode cL_law 1327 = .ok (.iload_n 3, 1) := by decide +kernel
theorem dL_law_1328 : decode cL_law 1328 = .ok (.iconst 4, 1) := by decide +kernel
theorem dL_law_1329 : decode cL_law 1329 = .ok (.iadd, 1) := by decide +kernel
theorem dL_law_1330 : decode cL_law 1330 = .ok (.iaload, 1) := by decide +kernel
theorem dL_law_1331 : decode cL_law 1331 = .ok (.i2l, 1) := by decide +kernel
theorem dL_law_1332 : decode cL_law 1332 = .ok (.ldc2_w 172, 3) := by decide +kernel
theorem dL_law_1335 : decode cL_law 1335 = .ok (.land, 1) := by decide +kernel
theorem dL_law_1336 : decode cL_law 1336 = .ok (.lor, 1) := by decide +kernel
theorem dL_law_1337 : decode cL_law 1337 = .ok (.invokevirtual 174, 3) := by decide +kernel
theorem dL_law_1340 : decode cL_law 1340 = .ok (.aload_n 2, 1) := by decide +kernel
theorem dL_law_1341 : decode cL_law 1341 = .ok (.aload_n 0, 1) := by decide +kernel
theorem dL_law_1342 : decode cL_law 1342 = .ok (.iload_n 3, 1) := by decide +kernel
theorem dL_law_1343 : decode cL_law 1343 = .ok (.iconst 1, 1) := by decide +kernel
theorem dL_law_1344 : decode cL_law 1344 = .ok (.iadd, 1) := by decide +kernel
theorem dL_law_1345 : decode cL_law 1345 = .ok (.iaload, 1) := by decide +kernel
theorem dL_law_1346 : decode cL_law 1346 = .ok (.aload_n 0, 1) := by decide +kernel
theorem dL_law_1347 : decode cL_law 1347 = .ok (.iload_n 3, 1) := by decide +kernel
theorem dL_law_1348 : decode cL_law 1348 = .ok (.iconst 2, 1) := by decide +kernel
theorem dL_law_1349 : decode cL_law 1349 = .ok (.iadd, 1) := by decide +kernel
theorem dL_law_1350 : decode cL_law 1350 = .ok (.iaload, 1) := by decide +kernel
theorem dL_law_1351 : decode cL_law 1351 = .ok (.aload_n 0, 1) := by decide +kernel
theorem dL_law_1352 : decode cL_law 1352 = .ok (.iload_n 3, 1) := by decide +kernel
theorem dL_law_1353 : decode cL_law 1353 = .ok (.iconst 3, 1) := by decide +kernel
theorem dL_law_1354 : decode cL_law 1354 = .ok (.iadd, 1) := by decide +kernel
theorem dL_law_1355 : decode cL_law 1355 = .ok (.iaload, 1) := by decide +kernel
theorem dL_law_1356 : decode cL_law 1356 = .ok (.i2l, 1) := by decide +kernel
theorem dL_law_1357 : decode cL_law 1357 = .ok (.bipush 32, 2) := by decide +kernel
theorem dL_law_1359 : decode cL_law 1359 = .ok (.lshl, 1) := by decide +kernel
theorem dL_law_1360 : decode cL_law 1360 = .ok (.aload_n 0, 1) := by decide +kernel
theorem dL_law_1361 : decode cL_law 1361 = .ok (.iload_n 3, 1) := by decide +kernel
theorem dL_law_1362 : decode cL_law 1362 = .ok (.iconst 4, 1) := by decide +kernel
theorem dL_law_1363 : decode cL_law 1363 = .ok (.iadd, 1) := by decide +kernel
theorem dL_law_1364 : decode cL_law 1364 = .ok (.iaload, 1) := by decide +kernel
theorem dL_law_1365 : decode cL_law 1365 = .ok (.i2l, 1) := by decide +kernel
theorem dL_law_1366 : decode cL_law 1366 = .ok (.ldc2_w 172, 3) := by decide +kernel
theorem dL_law_1369 : decode cL_law 1369 = .ok (.land, 1) := by decide +kernel
theorem dL_law_1370 : decode cL_law 1370 = .ok (.lor, 1) := by decide +kernel
theorem dL_law_1371 : decode cL_law 1371 = .ok (.invokevirtual 178, 3) := by decide +kernel
theorem dL_law_1374 : decode cL_law 1374 = .ok (.lcmp, 1) := by decide +kernel
theorem dL_law_1375 : decode cL_law 1375 = .ok (.ifCond .eq 97, 3) := by decide +kernel
theorem dL_law_1378 : decode cL_law 1378 = .ok (.iconst 0, 1) := by decide +kernel
theorem dL_law_1379 : decode cL_law 1379 = .ok (.ireturn, 1) := by decide +kernel
theorem dL_law_1380 : decode cL_law 1380 = .ok (.aload_n 1, 1) := by decide +kernel
theorem dL_law_1381 : decode cL_law 1381 = .ok (.aload_n 0, 1) := by decide +kernel
theorem dL_law_1382 : decode cL_law 1382 = .ok (.iload_n 3, 1) := by decide +kernel
theorem dL_law_1383 : decode cL_law 1383 = .ok (.iconst 1, 1) := by decide +kernel
theorem dL_law_1384 : decode cL_law 1384 = .ok (.iadd, 1) := by decide +kernel
theorem dL_law_1385 : decode cL_law 1385 = .ok (.iaload, 1) := by decide +kernel
theorem dL_law_1386 : decode cL_law 1386 = .ok (.invokevirtual 179, 3) := by decide +kernel
theorem dL_law_1389 : decode cL_law 1389 = .ok (.aload_n 2, 1) := by decide +kernel
theorem dL_law_1390 : decode cL_law 1390 = .ok (.aload_n 0, 1) := by decide +kernel
theorem dL_law_1391 : decode cL_law 1391 = .ok (.iload_n 3, 1) := by decide +kernel
theorem dL_law_1392 : decode cL_law 1392 = .ok (.iconst 1, 1) := by decide +kernel
theorem dL_law_1393 : decode cL_law 1393 = .ok (.iadd, 1) := by decide +kernel
theorem dL_law_1394 : decode cL_law 1394 = .ok (.iaload, 1) := by decide +kernel
theorem dL_law_1395 : decode cL_law 1395 = .ok (.invokevirtual 182, 3) := by decide +kernel
theorem dL_law_1398 : decode cL_law 1398 = .ok (.if_icmp .eq 74, 3) := by decide +kernel
theorem dL_law_1401 : decode cL_law 1401 = .ok (.iconst 0, 1) := by decide +kernel
theorem dL_law_1402 : decode cL_law 1402 = .ok (.ireturn, 1) := by decide +kernel
theorem dL_law_1403 : decode cL_law 1403 = .ok (.aload_n 1, 1) := by decide +kernel
theorem dL_law_1404 : decode cL_law 1404 = .ok (.aload_n 0, 1) := by decide +kernel
theorem dL_law_1405 : decode cL_law 1405 = .ok (.iload_n 3, 1) := by decide +kernel
theorem dL_law_1406 : decode cL_law 1406 = .ok (.iconst 1, 1) := by decide +kernel
theorem dL_law_1407 : decode cL_law 1407 = .ok (.iadd, 1) := by decide +kernel
theorem dL_law_1408 : decode cL_law 1408 = .ok (.iaload, 1) := by decide +kernel
theorem dL_law_1409 : decode cL_law 1409 = .ok (.invokevirtual 183, 3) := by decide +kernel
theorem dL_law_1412 : decode cL_law 1412 = .ok (.aload_n 2, 1) := by decide +kernel
theorem dL_law_1413 : decode cL_law 1413 = .ok (.aload_n 0, 1) := by decide +kernel
theorem dL_law_1414 : decode cL_law 1414 = .ok (.iload_n 3, 1) := by decide +kernel
theorem dL_law_1415 : decode cL_law 1415 = .ok (.iconst 1, 1) := by decide +kernel
theorem dL_law_1416 : decode cL_law 1416 = .ok (.iadd, 1) := by decide +kernel
theorem dL_law_1417 : decode cL_law 1417 = .ok (.iaload, 1) := by decide +kernel
theorem dL_law_1418 : decode cL_law 1418 = .ok (.invokevirtual 186, 3) := by decide +kernel
theorem dL_law_1421 : decode cL_law 1421 = .ok (.if_icmp .eq 51, 3) := by decide +kernel
theorem dL_law_1424 : decode cL_law 1424 = .ok (.iconst 0, 1) := by decide +kernel
theorem dL_law_1425 : decode cL_law 1425 = .ok (.ireturn, 1) := by decide +kernel
theorem dL_law_1426 : decode cL_law 1426 = .ok (.aload_n 1, 1) := by decide +kernel
theorem dL_law_1427 : decode cL_law 1427 = .ok (.aload_n 0, 1) := by decide +kernel
theorem dL_law_1428 : decode cL_law 1428 = .ok (.iload_n 3, 1) := by decide +kernel
theorem dL_law_1429 : decode cL_law 1429 = .ok (.iconst 1, 1) := by decide +kernel
theorem dL_law_1430 : decode cL_law 1430 = .ok (.iadd, 1) := by decide +kernel
theorem dL_law_1431 : decode cL_law 1431 = .ok (.iaload, 1) := by decide +kernel
theorem dL_law_1432 : decode cL_law 1432 = .ok (.invokevirtual 187, 3) := by decide +kernel
theorem dL_law_1435 : decode cL_law 1435 = .ok (.aload_n 2, 1) := by decide +kernel
theorem dL_law_1436 : decode cL_law 1436 = .ok (.aload_n 0, 1) := by decide +kernel
theorem dL_law_1437 : decode cL_law 1437 = .ok (.iload_n 3, 1) := by decide +kernel
theorem dL_law_1438 : decode cL_law 1438 = .ok (.iconst 1, 1) := by decide +kernel
theorem dL_law_1439 : decode cL_law 1439 = .ok (.iadd, 1) := by decide +kernel
theorem dL_law_1440 : decode cL_law 1440 = .ok (.iaload, 1) := by decide +kernel
theorem dL_law_1441 : decode cL_law 1441 = .ok (.invokevirtual 190, 3) := by decide +kernel
theorem dL_law_1444 : decode cL_law 1444 = .ok (.if_icmp .eq 28, 3) := by decide +kernel
theorem dL_law_1447 : decode cL_law 1447 = .ok (.iconst 0, 1) := by decide +kernel
theorem dL_law_1448 : decode cL_law 1448 = .ok (.ireturn, 1) := by decide +kernel
theorem dL_law_1449 : decode cL_law 1449 = .ok (.aload_n 1, 1) := by decide +kernel
theorem dL_law_1450 : decode cL_law 1450 = .ok (.aload_n 0, 1) := by decide +kernel
theorem dL_law_1451 : decode cL_law 1451 = .ok (.iload_n 3, 1) := by decide +kernel
theorem dL_law_1452 : decode cL_law 1452 = .ok (.iconst 1, 1) := by decide +kernel
theorem dL_law_1453 : decode cL_law 1453 = .ok (.iadd, 1) := by decide +kernel
theorem dL_law_1454 : decode cL_law 1454 = .ok (.iaload, 1) := by decide +kernel
theorem dL_law_1455 : decode cL_law 1455 = .ok (.invokevirtual 191, 3) := by decide +kernel
theorem dL_law_1458 : decode cL_law 1458 = .ok (.aload_n 2, 1) := by decide +kernel
theorem dL_law_1459 : decode cL_law 1459 = .ok (.aload_n 0, 1) := by decide +kernel
theorem dL_law_1460 : decode cL_law 1460 = .ok (.iload_n 3, 1) := by decide +kernel
theorem dL_law_1461 : decode cL_law 1461 = .ok (.iconst 1, 1) := by decide +kernel
theorem dL_law_1462 : decode cL_law 1462 = .ok (.iadd, 1) := by decide +kernel
theorem dL_law_1463 : decode cL_law 1463 = .ok (.iaload, 1) := by decide +kernel
theorem dL_law_1464 : decode cL_law 1464 = .ok (.invokevirtual 194, 3) := by decide +kernel
theorem dL_law_1467 : decode cL_law 1467 = .ok (.if_icmp .eq 5, 3) := by decide +kernel
theorem dL_law_1470 : decode cL_law 1470 = .ok (.iconst 0, 1) := by decide +kernel
theorem dL_law_1471 : decode cL_law 1471 = .ok (.ireturn, 1) := by decide +kernel
theorem dL_law_1472 : decode cL_law 1472 = .ok (.iinc 3 6, 3) := by decide +kernel
theorem dL_law_1475 : decode cL_law 1475 = .ok (.goto (-1457), 3) := by decide +kernel
theorem dL_law_1478 : decode cL_law 1478 = .ok (.iconst 1, 1) := by decide +kernel
theorem dL_law_1479 : decode cL_law 1479 = .ok (.ireturn, 1) := by decide +kernel
