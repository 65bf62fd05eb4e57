theorem dL_1304 : decode code 1304 = .ok (.iload_n 3, 1) := by decide +kernel
theorem dL_1305 : decode code 1305 = .ok (.iconst 3, 1) := by decide +kernel
theorem dL_1306 : decode code 1306 = .ok (.iadd, 1) := by decide +kernel
theorem dL_1307 : decode code 1307 = .ok (.iaload, 1) := by decide +kernel
theorem dL_1308 : decode code 1308 = .ok (.aload_n 0, 1) := by decide +kernel
theorem dL_1309 : decode code 1309 = .ok (.iload_n 3, 1) := by decide +kernel
theorem dL_1310 : decode code 1310 = .ok (.iconst 4, 1) := by decide +kernel
theorem dL_1311 : decode code 1311 = .ok (.iadd, 1) := by decide +kernel
theorem dL_1312 : decode code 1312 = .ok (.iaload, 1) := by decide +kernel
theorem dL_1313 : decode code 1313 = .ok (.invokevirtual 159, 3) := by decide +kernel
theorem dL_1316 : decode code 1316 = .ok (.aload_n 2, 1) := by decide +kernel
theorem dL_1317 : decode code 1317 = .ok (.aload_n 0, 1) := by decide +kernel
theorem dL_1318 : decode code 1318 = .ok (.iload_n 3, 1) := by decide +kernel
theorem dL_1319 : decode code 1319 = .ok (.iconst 1, 1) := by decide +kernel
theorem dL_1320 : decode code 1320 = .ok (.iadd, 1) := by decide +kernel
theorem dL_1321 : decode code 1321 = .ok (.iaload, 1) := by decide +kernel
theorem dL_1322 : decode code 1322 = .ok (.aload_n 0, 1) := by decide +kernel
theorem dL_1323 : decode code 1323 = .ok (.iload_n 3, 1) := by decide +kernel
theorem dL_1324 : decode code 1324 = .ok (.iconst 2, 1) := by decide +kernel
theorem dL_1325 : decode code 1325 = .ok (.iadd, 1) := by decide +kernel
theorem dL_1326 : decode code 1326 = .ok (.iaload, 1) := by decide +kernel
theorem dL_1327 : decode code 1327 = .ok (.aload_n 0, 1) := by decide +kernel
theorem dL_1328 : decode code 1328 = .ok (.iload_n 3, 1) := by decide +kernel
theorem dL_1329 : decode code 1329 = .ok (.iconst 3, 1) := by decide +kernel
theorem dL_1330 : decode code 1330 = .ok (.iadd, 1) := by decide +kernel
theorem dL_1331 : decode code 1331 = .ok (.iaload, 1) := by decide +kernel
theorem dL_1332 : decode code 1332 = .ok (.aload_n 0, 1) := by decide +kernel
theorem dL_1333 : decode code 1333 = .ok (.iload_n 3, 1) := by decide +kernel
theorem dL_1334 : decode code 1334 = .ok (.iconst 4, 1) := by decide +kernel
theorem dL_1335 : decode code 1335 = .ok (.iadd, 1) := by decide +kernel
theorem dL_1336 : decode code 1336 = .ok (.iaload, 1) := by decide +kernel
theorem dL_1337 : decode code 1337 = .ok (.invokevirtual 162, 3) := by decide +kernel
theorem dL_1340 : decode code 1340 = .ok (.if_icmp .eq 117, 3) := by decide +kernel
theorem dL_1343 : decode code 1343 = .ok (.iconst 0, 1) := by decide +kernel
theorem dL_1344 : decode code 1344 = .ok (.ireturn, 1) := by decide +kernel
theorem dL_1345 : decode code 1345 = .ok (.aload_n 1, 1) := by decide +kernel
theorem dL_1346 : decode code 1346 = .ok (.aload_n 0, 1) := by decide +kernel
theorem dL_1347 : decode code 1347 = .ok (.iload_n 3, 1) := by decide +kernel
theorem dL_1348 : decode code 1348 = .ok (.iconst 1, 1) := by decide +kernel
theorem dL_1349 : decode code 1349 = .ok (.iadd, 1) := by decide +kernel
theorem dL_1350 : decode code 1350 = .ok (.iaload, 1) := by decide +kernel
theorem dL_1351 : decode code 1351 = .ok (.aload_n 0, 1) := by decide +kernel
theorem dL_1352 : decode code 1352 = .ok (.iload_n 3, 1) := by decide +kernel
theorem dL_1353 : decode code 1353 = .ok (.iconst 2, 1) := by decide +kernel
theorem dL_1354 : decode code 1354 = .ok (.iadd, 1) := by decide +kernel
theorem dL_1355 : decode code 1355 = .ok (.iaload, 1) := by decide +kernel
theorem dL_1356 : decode code 1356 = .ok (.aload_n 0, 1) := by decide +kernel
theorem dL_1357 : decode code 1357 = .ok (.iload_n 3, 1) := by decide +kernel
theorem dL_1358 : decode code 1358 = .ok (.iconst 3, 1) := by decide +kernel
theorem dL_1359 : decode code 1359 = .ok (.iadd, 1) := by decide +kernel
theorem dL_1360 : decode code 1360 = .ok (.iaload, 1) := by decide +kernel
theorem dL_1361 : decode code 1361 = .ok (.invokevirtual 163, 3) := by decide +kernel
theorem dL_1364 : decode code 1364 = .ok (.aload_n 2, 1) := by decide +kernel
theorem dL_1365 : decode code 1365 = .ok (.aload_n 0, 1) := by decide +kernel
theorem dL_1366 : decode code 1366 = .ok (.iload_n 3, 1) := by decide +kernel
theorem dL_1367 : decode code 1367 = .ok (.iconst 1, 1) := by decide +kernel
theorem dL_1368 : decode code 1368 = .ok (.iadd, 1) := by decide +kernel
theorem dL_1369 : decode code 1369 = .ok (.iaload, 1) := by decide +kernel
theorem dL_1370 : decode code 1370 = .ok (.aload_n 0, 1) := by decide +kernel
theorem dL_1371 : decode code 1371 = .ok (.iload_n 3, 1) := by decide +kernel
theorem dL_1372 : decode code 1372 = .ok (.iconst 2, 1) := by decide +kernel
theorem dL_1373 : decode code 1373 = .ok (.iadd, 1) := by decide +kernel
theorem dL_1374 : decode code 1374 = .ok (.iaload, 1) := by decide +kernel
theorem dL_1375 : decode code 1375 = .ok (.aload_n 0, 1) := by decide +kernel
theorem dL_1376 : decode code 1376 = .ok (.iload_n 3, 1) := by decide +kernel
theorem dL_1377 : decode code 1377 = .ok (.iconst 3, 1) := by decide +kernel
theorem dL_1378 : decode code 1378 = .ok (.iadd, 1) := by decide +kernel
theorem dL_1379 : decode code 1379 = .ok (.iaload, 1) := by decide +kernel
theorem dL_1380 : decode code 1380 = .ok (.invokevirtual 166, 3) := by decide +kernel
theorem dL_1383 : decode code 1383 = .ok (.if_icmp .eq 74, 3) := by decide +kernel
theorem dL_1386 : decode code 1386 = .ok (.iconst 0, 1) := by decide +kernel
theorem dL_1387 : decode code 1387 = .ok (.ireturn, 1) := by decide +kernel
theorem dL_1388 : decode code 1388 = .ok (.aload_n 1, 1) := by decide +kernel
theorem dL_1389 : decode code 1389 = .ok (.aload_n 0, 1) := by decide +kernel
theorem dL_1390 : decode code 1390 = .ok (.iload_n 3, 1) := by decide +kernel
theorem dL_1391 : decode code 1391 = .ok (.iconst 1, 1) := by decide +kernel
theorem dL_1392 : decode code 1392 = .ok (.iadd, 1) := by decide +kernel
theorem dL_1393 : decode code 1393 = .ok (.iaload, 1) := by decide +kernel
theorem dL_1394 : decode code 1394 = .ok (.invokevirtual 167, 3) := by decide +kernel
theorem dL_1397 : decode code 1397 = .ok (.aload_n 2, 1) := by decide +kernel
theorem dL_1398 : decode code 1398 = .ok (.aload_n 0, 1) := by decide +kernel
theorem dL_1399 : decode code 1399 = .ok (.iload_n 3, 1) := by decide +kernel
theorem dL_1400 : decode code 1400 = .ok (.iconst 1, 1) := by decide +kernel
theorem dL_1401 : decode code 1401 = .ok (.iadd, 1) := by decide +kernel
theorem dL_1402 : decode code 1402 = .ok (.iaload, 1) := by decide +kernel
theorem dL_1403 : decode code 1403 = .ok (.invokevirtual 170, 3) := by decide +kernel
theorem dL_1406 : decode code 1406 = .ok (.if_icmp .eq 51, 3) := by decide +kernel
theorem dL_1409 : decode code 1409 = .ok (.iconst 0, 1) := by decide +kernel
theorem dL_1410 : decode code 1410 = .ok (.ireturn, 1) := by decide +kernel
theorem dL_1411 : decode code 1411 = .ok (.aload_n 1, 1) := by decide +kernel
theorem dL_1412 : decode code 1412 = .ok (.aload_n 0, 1) := by decide +kernel
theorem dL_1413 : decode code 1413 = .ok (.iload_n 3, 1) := by decide +kernel
theorem dL_1414 : decode code 1414 = .ok (.iconst 1, 1) := by decide +kernel
theorem dL_1415 : decode code 1415 = .ok (.iadd, 1) := by decide +kernel
theorem dL_1416 : decode code 1416 = .ok (.iaload, 1) := by decide +kernel
theorem dL_1417 : decode code 1417 = .ok (.invokevirtual 171, 3) := by decide +kernel
theorem dL_1420 : decode code 1420 = .ok (.aload_n 2, 1) := by decide +kernel
theorem dL_1421 : decode code 1421 = .ok (.aload_n 0, 1) := by decide +kernel
theorem dL_1422 : decode code 1422 = .ok (.iload_n 3, 1) := by decide +kernel
theorem dL_1423 : decode code 1423 = .ok (.iconst 1, 1) := by decide +kernel
theorem dL_1424 : decode code 1424 = .ok (.iadd, 1) := by decide +kernel
theorem dL_1425 : decode code 1425 = .ok (.iaload, 1) := by decide +kernel
theorem dL_1426 : decode code 1426 = .ok (.invokevirtual 174, 3) := by decide +kernel
theorem dL_1429 : decode code 1429 = .ok (.if_icmp .eq 28, 3) := by decide +kernel
theorem dL_1432 : decode code 1432 = .ok (.iconst 0, 1) := by decide +kernel
theorem dL_1433 : decode code 1433 = .ok (.ireturn, 1) := by decide +kernel
theorem dL_1434 : decode code 1434 = .ok (.aload_n 1, 1) := by decide +kernel
theorem dL_1435 : decode code 1435 = .ok (.aload_n 0, 1) := by decide +kernel
theorem dL_1436 : decode code 1436 = .ok (.iload_n 3, 1) := by decide +kernel
theorem dL_1437 : decode code 1437 = .ok (.iconst 1, 1) := by decide +kernel
theorem dL_1438 : decode code 1438 = .ok (.iadd, 1) := by decide +kernel
theorem dL_1439 : decode code 1439 = .ok (.iaload, 1) := by decide +kernel
theorem dL_1440 : decode code 1440 = .ok (.invokevirtual 175, 3) := by decide +kernel
theorem dL_1443 : decode code 1443 = .ok (.aload_n 2, 1) := by decide +kernel
theorem dL_1444 : decode code 1444 = .ok (.aload_n 0, 1) := by decide +kernel
theorem dL_1445 : decode code 1445 = .ok (.iload_n 3, 1) := by decide +kernel
theorem dL_1446 : decode code 1446 = .ok (.iconst 1, 1) := by decide +kernel
theorem dL_1447 : decode code 1447 = .ok (.iadd, 1) := by decide +kernel
theorem dL_1448 : decode code 1448 = .ok (.iaload, 1) := by decide +kernel
theorem dL_1449 : decode code 1449 = .ok (.invokevirtual 178, 3) := by decide +kernel
theorem dL_1452 : decode code 1452 = .ok (.if_icmp .eq 5, 3) := by decide +kernel
theorem dL_1455 : decode code 1455 = .ok (.iconst 0, 1) := by decide +kernel
theorem dL_1456 : decode code 1456 = .ok (.ireturn, 1) := by decide +kernel
theorem dL_1457 : decode code 1457 = .ok (.iinc 3 6, 3) := by decide +kernel
theorem dL_1460 : decode code 1460 = .ok (.goto (-1442), 3) := by decide +kernel
theorem dL_1463 : decode code 1463 = .ok (.iconst 1, 1) := by decide +kernel
theorem dL_1464 : decode code 1464 = .ok (.ireturn, 1) := by decide +kernel
