theorem dL_law_1490 : decode cL_law 1490 = .ok (.iadd, 1) := by decide +kernel
theorem dL_law_1491 : decode cL_law 1491 = .ok (.iaload, 1) := by decide +kernel
theorem dL_law_1492 : decode cL_law 1492 = .ok (.invokevirtual 217, 3) := by decide +kernel
theorem dL_law_1495 : decode cL_law 1495 = .ok (.aload_n 2, 1) := by decide +kernel
theorem dL_law_1496 : decode cL_law 1496 = .ok (.aload_n 0, 1) := by decide +kernel
theorem dL_law_1497 : decode cL_law 1497 = .ok (.iload 4, 2) := by decide +kernel
theorem dL_law_1499 : decode cL_law 1499 = .ok (.iconst 1, 1) := by decide +kernel
theorem dL_law_1500 : decode cL_law 1500 = .ok (.iadd, 1) := by decide +kernel
theorem dL_law_1501 : decode cL_law 1501 = .ok (.iaload, 1) := by decide +kernel
theorem dL_law_1502 : decode cL_law 1502 = .ok (.invokevirtual 220, 3) := by decide +kernel
theorem dL_law_1505 : decode cL_law 1505 = .ok (.if_icmp .eq 61, 3) := by decide +kernel
theorem dL_law_1508 : decode cL_law 1508 = .ok (.iconst 0, 1) := by decide +kernel
theorem dL_law_1509 : decode cL_law 1509 = .ok (.ireturn, 1) := by decide +kernel
theorem dL_law_1510 : decode cL_law 1510 = .ok (.aload_n 1, 1) := by decide +kernel
theorem dL_law_1511 : decode cL_law 1511 = .ok (.aload_n 0, 1) := by decide +kernel
theorem dL_law_1512 : decode cL_law 1512 = .ok (.iload 4, 2) := by decide +kernel
theorem dL_law_1514 : decode cL_law 1514 = .ok (.iconst 1, 1) := by decide +kernel
theorem dL_law_1515 : decode cL_law 1515 = .ok (.iadd, 1) := by decide +kernel
theorem dL_law_1516 : decode cL_law 1516 = .ok (.iaload, 1) := by decide +kernel
theorem dL_law_1517 : decode cL_law 1517 = .ok (.aload_n 3, 1) := by decide +kernel
theorem dL_law_1518 : decode cL_law 1518 = .ok (.invokestatic 221, 3) := by decide +kernel
theorem dL_law_1521 : decode cL_law 1521 = .ok (.istore 5, 2) := by decide +kernel
theorem dL_law_1523 : decode cL_law 1523 = .ok (.aload_n 2, 1) := by decide +kernel
theorem dL_law_1524 : decode cL_law 1524 = .ok (.aload_n 0, 1) := by decide +kernel
theorem dL_law_1525 : decode cL_law 1525 = .ok (.iload 4, 2) := by decide +kernel
theorem dL_law_1527 : decode cL_law 1527 = .ok (.iconst 1, 1) := by decide +kernel
theorem dL_law_1528 : decode cL_law 1528 = .ok (.iadd, 1) := by decide +kernel
theorem dL_law_1529 : decode cL_law 1529 = .ok (.iaload, 1) := by decide +kernel
theorem dL_law_1530 : decode cL_law 1530 = .ok (.invokevirtual 224, 3) := by decide +kernel
theorem dL_law_1533 : decode cL_law 1533 = .ok (.istore 6, 2) := by decide +kernel
theorem dL_law_1535 : decode cL_law 1535 = .ok (.aload_n 2, 1) := by decide +kernel
theorem dL_law_1536 : decode cL_law 1536 = .ok (.invokevirtual 43, 3) := by decide +kernel
theorem dL_law_1539 : decode cL_law 1539 = .ok (.iload 5, 2) := by decide +kernel
theorem dL_law_1541 : decode cL_law 1541 = .ok (.if_icmp .eq 5, 3) := by decide +kernel
theorem dL_law_1544 : decode cL_law 1544 = .ok (.iconst 0, 1) := by decide +kernel
theorem dL_law_1545 : decode cL_law 1545 = .ok (.ireturn, 1) := by decide +kernel
theorem dL_law_1546 : decode cL_law 1546 = .ok (.iload 5, 2) := by decide +kernel
theorem dL_law_1548 : decode cL_law 1548 = .ok (.ifCond .ne 15, 3) := by decide +kernel
theorem dL_law_1551 : decode cL_law 1551 = .ok (.aload_n 3, 1) := by decide +kernel
theorem dL_law_1552 : decode cL_law 1552 = .ok (.iconst 0, 1) := by decide +kernel
theorem dL_law_1553 : decode cL_law 1553 = .ok (.laload, 1) := by decide +kernel
theorem dL_law_1554 : decode cL_law 1554 = .ok (.iload 6, 2) := by decide +kernel
theorem dL_law_1556 : decode cL_law 1556 = .ok (.i2l, 1) := by decide +kernel
theorem dL_law_1557 : decode cL_law 1557 = .ok (.lcmp, 1) := by decide +kernel
theorem dL_law_1558 : decode cL_law 1558 = .ok (.ifCond .eq 5, 3) := by decide +kernel
theorem dL_law_1561 : decode cL_law 1561 = .ok (.iconst 0, 1) := by decide +kernel
theorem dL_law_1562 : decode cL_law 1562 = .ok (.ireturn, 1) := by decide +kernel
theorem dL_law_1563 : decode cL_law 1563 = .ok (.goto 3, 3) := by decide +kernel
theorem dL_law_1566 : decode cL_law 1566 = .ok (.iinc 4 5, 3) := by decide +kernel
theorem dL_law_1569 : decode cL_law 1569 = .ok (.goto (-1546), 3) := by decide +kernel
theorem dL_law_1572 : decode cL_law 1572 = .ok (.iconst 1, 1) := by decide +kernel
theorem dL_law_1573 : decode cL_law 1573 = .ok (.ireturn, 1) := by decide +kernel
