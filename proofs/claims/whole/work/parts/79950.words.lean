/-! THEY ARE AS THE CLAIM HAS THEM -/
set_option maxRecDepth 100000 in
theorem rm_n_X0_addAtom : rm_okN rm_mt 245 0 2 := ⟨by decide, rm_tb_of 789 rfl rfl, rm_tb_of 134 rfl rfl, ⟨by decide, by decide, by decide +kernel⟩, by decide⟩
set_option maxRecDepth 100000 in
theorem rm_n_X0_distinctRoots : rm_okN rm_mt 245 1 1 := ⟨by decide, rm_tb_of 1111 rfl rfl, rm_tb_of 134 rfl rfl, ⟨by decide, by decide, by decide +kernel⟩, by decide⟩
set_option maxRecDepth 100000 in
theorem rm_n_X0_foldRest : rm_okN rm_mt 245 2 1 := ⟨by decide, rm_tb_of 854 rfl rfl, rm_tb_of 134 rfl rfl, ⟨by decide, by decide, by decide +kernel⟩, by decide⟩
set_option maxRecDepth 100000 in
theorem rm_n_X0_init : rm_okN rm_mt 245 3 0 := ⟨by decide, rm_tb_of 257 rfl rfl, rm_tb_of 134 rfl rfl, ⟨by decide, by decide, by decide +kernel⟩, by decide⟩
set_option maxRecDepth 100000 in
theorem rm_n_X0_multiplicity : rm_okN rm_mt 245 4 2 := ⟨by decide, rm_tb_of 1081 rfl rfl, rm_tb_of 134 rfl rfl, ⟨by decide, by decide, by decide +kernel⟩, by decide⟩
set_option maxRecDepth 100000 in
theorem rm_n_X0_sharedDegree : rm_okN rm_mt 245 5 1 := ⟨by decide, rm_tb_of 1161 rfl rfl, rm_tb_of 134 rfl rfl, ⟨by decide, by decide, by decide +kernel⟩, by decide⟩
set_option maxRecDepth 100000 in
theorem rm_n_X0_splitOff : rm_okN rm_mt 245 6 2 := ⟨by decide, rm_tb_of 858 rfl rfl, rm_tb_of 134 rfl rfl, ⟨by decide, by decide, by decide +kernel⟩, by decide⟩
set_option maxRecDepth 100000 in
theorem rm_n_X10_addRoot : rm_okN rm_mt 245 7 3 := ⟨by decide, rm_tb_of 1647 rfl rfl, rm_tb_of 141 rfl rfl, ⟨by decide, by decide, by decide +kernel⟩, by decide⟩
set_option maxRecDepth 100000 in
theorem rm_n_X10_again : rm_okN rm_mt 245 8 1 := ⟨by decide, rm_tb_of 1524 rfl rfl, rm_tb_of 141 rfl rfl, ⟨by decide, by decide, by decide +kernel⟩, by decide⟩
set_option maxRecDepth 100000 in
theorem rm_n_X10_against : rm_okN rm_mt 245 9 3 := ⟨by decide, rm_tb_of 1674 rfl rfl, rm_tb_of 141 rfl rfl, ⟨by decide, by decide, by decide +kernel⟩, by decide⟩
set_option maxRecDepth 100000 in
theorem rm_n_X10_at : rm_okN rm_mt 245 10 2 := ⟨by decide, rm_tb_of 1512 rfl rfl, rm_tb_of 141 rfl rfl, ⟨by decide, by decide, by decide +kernel⟩, by decide⟩
set_option maxRecDepth 100000 in
theorem rm_n_X10_atom : rm_okN rm_mt 245 11 2 := ⟨by decide, rm_tb_of 1710 rfl rfl, rm_tb_of 141 rfl rfl, ⟨by decide, by decide, by decide +kernel⟩, by decide⟩
set_option maxRecDepth 100000 in
theorem rm_n_X10_beginSum : rm_okN rm_mt 245 12 0 := ⟨by decide, rm_tb_of 1423 rfl rfl, rm_tb_of 141 rfl rfl, ⟨by decide, by decide, by decide +kernel⟩, by decide⟩
set_option maxRecDepth 100000 in
theorem rm_n_X10_by : rm_okN rm_mt 245 13 2 := ⟨by decide, rm_tb_of 1586 rfl rfl, rm_tb_of 141 rfl rfl, ⟨by decide, by decide, by decide +kernel⟩, by decide⟩
set_option maxRecDepth 100000 in
theorem rm_n_X10_cannot : rm_okN rm_mt 245 14 0 := ⟨by decide, rm_tb_of 1438 rfl rfl, rm_tb_of 141 rfl rfl, ⟨by decide, by decide, by decide +kernel⟩, by decide⟩
set_option maxRecDepth 100000 in
theorem rm_n_X10_cellOf : rm_okN rm_mt 245 15 2 := ⟨by decide, rm_tb_of 1776 rfl rfl, rm_tb_of 141 rfl rfl, ⟨by decide, by decide, by decide +kernel⟩, by decide⟩
set_option maxRecDepth 100000 in
theorem rm_n_X10_cells : rm_okN rm_mt 245 16 0 := ⟨by decide, rm_tb_of 1694 rfl rfl, rm_tb_of 141 rfl rfl, ⟨by decide, by decide, by decide +kernel⟩, by decide⟩
set_option maxRecDepth 100000 in
theorem rm_n_X10_changesAt : rm_okN rm_mt 245 17 2 := ⟨by decide, rm_tb_of 1639 rfl rfl, rm_tb_of 141 rfl rfl, ⟨by decide, by decide, by decide +kernel⟩, by decide⟩
set_option maxRecDepth 100000 in
theorem rm_n_X10_changesAtHalf : rm_okN rm_mt 245 18 2 := ⟨by decide, rm_tb_of 1635 rfl rfl, rm_tb_of 141 rfl rfl, ⟨by decide, by decide, by decide +kernel⟩, by decide⟩
set_option maxRecDepth 100000 in
theorem rm_n_X10_clean : rm_okN rm_mt 245 19 2 := ⟨by decide, rm_tb_of 1508 rfl rfl, rm_tb_of 141 rfl rfl, ⟨by decide, by decide, by decide +kernel⟩, by decide⟩
set_option maxRecDepth 100000 in
theorem rm_n_X10_comeBack : rm_okN rm_mt 245 20 0 := ⟨by decide, rm_tb_of 1606 rfl rfl, rm_tb_of 141 rfl rfl, ⟨by decide, by decide, by decide +kernel⟩, by decide⟩
set_option maxRecDepth 100000 in
theorem rm_n_X10_common : rm_okN rm_mt 245 21 1 := ⟨by decide, rm_tb_of 1761 rfl rfl, rm_tb_of 141 rfl rfl, ⟨by decide, by decide, by decide +kernel⟩, by decide⟩
set_option maxRecDepth 100000 in
theorem rm_n_X10_common2 : rm_okN rm_mt 245 22 2 := ⟨by decide, rm_tb_of 1590 rfl rfl, rm_tb_of 141 rfl rfl, ⟨by decide, by decide, by decide +kernel⟩, by decide⟩
set_option maxRecDepth 100000 in
theorem rm_n_X10_compare : rm_okN rm_mt 245 23 2 := ⟨by decide, rm_tb_of 1655 rfl rfl, rm_tb_of 141 rfl rfl, ⟨by decide, by decide, by decide +kernel⟩, by decide⟩
set_option maxRecDepth 100000 in
theorem rm_n_X10_copyTo : rm_okN rm_mt 245 24 2 := ⟨by decide, rm_tb_of 1528 rfl rfl, rm_tb_of 141 rfl rfl, ⟨by decide, by decide, by decide +kernel⟩, by decide⟩
set_option maxRecDepth 100000 in
theorem rm_n_X10_count : rm_okN rm_mt 245 25 1 := ⟨by decide, rm_tb_of 1702 rfl rfl, rm_tb_of 141 rfl rfl, ⟨by decide, by decide, by decide +kernel⟩, by decide⟩
set_option maxRecDepth 100000 in
theorem rm_n_X10_degreeOf : rm_okN rm_mt 245 26 1 := ⟨by decide, rm_tb_of 1686 rfl rfl, rm_tb_of 141 rfl rfl, ⟨by decide, by decide, by decide +kernel⟩, by decide⟩
set_option maxRecDepth 100000 in
theorem rm_n_X10_derivative : rm_okN rm_mt 245 27 1 := ⟨by decide, rm_tb_of 1582 rfl rfl, rm_tb_of 141 rfl rfl, ⟨by decide, by decide, by decide +kernel⟩, by decide⟩
set_option maxRecDepth 100000 in
theorem rm_n_X10_digit : rm_okN rm_mt 245 28 4 := ⟨by decide, rm_tb_of 1540 rfl rfl, rm_tb_of 141 rfl rfl, ⟨by decide, by decide, by decide +kernel⟩, by decide⟩
set_option maxRecDepth 100000 in
theorem rm_n_X10_divide : rm_okN rm_mt 245 29 2 := ⟨by decide, rm_tb_of 1536 rfl rfl, rm_tb_of 141 rfl rfl, ⟨by decide, by decide, by decide +kernel⟩, by decide⟩
set_option maxRecDepth 100000 in
theorem rm_n_X10_divisor : rm_okN rm_mt 245 30 2 := ⟨by decide, rm_tb_of 1662 rfl rfl, rm_tb_of 141 rfl rfl, ⟨by decide, by decide, by decide +kernel⟩, by decide⟩
set_option maxRecDepth 100000 in
theorem rm_n_X10_endBase : rm_okN rm_mt 245 31 0 := ⟨by decide, rm_tb_of 1445 rfl rfl, rm_tb_of 141 rfl rfl, ⟨by decide, by decide, by decide +kernel⟩, by decide⟩
set_option maxRecDepth 100000 in
theorem rm_n_X10_endBracket : rm_okN rm_mt 245 32 1 := ⟨by decide, rm_tb_of 1472 rfl rfl, rm_tb_of 141 rfl rfl, ⟨by decide, by decide, by decide +kernel⟩, by decide⟩
set_option maxRecDepth 100000 in
theorem rm_n_X10_endTerm : rm_okN rm_mt 245 33 0 := ⟨by decide, rm_tb_of 1468 rfl rfl, rm_tb_of 141 rfl rfl, ⟨by decide, by decide, by decide +kernel⟩, by decide⟩
set_option maxRecDepth 100000 in
theorem rm_n_X10_exact : rm_okN rm_mt 245 34 2 := ⟨by decide, rm_tb_of 1756 rfl rfl, rm_tb_of 141 rfl rfl, ⟨by decide, by decide, by decide +kernel⟩, by decide⟩
set_option maxRecDepth 100000 in
theorem rm_n_X10_fail : rm_okN rm_mt 245 35 2 := ⟨by decide, rm_tb_of 1407 rfl rfl, rm_tb_of 141 rfl rfl, ⟨by decide, by decide, by decide +kernel⟩, by decide⟩
set_option maxRecDepth 100000 in
theorem rm_n_X10_findAll : rm_okN rm_mt 245 36 0 := ⟨by decide, rm_tb_of 1484 rfl rfl, rm_tb_of 141 rfl rfl, ⟨by decide, by decide, by decide +kernel⟩, by decide⟩
set_option maxRecDepth 100000 in
theorem rm_n_X10_findRoots : rm_okN rm_mt 245 37 1 := ⟨by decide, rm_tb_of 1619 rfl rfl, rm_tb_of 141 rfl rfl, ⟨by decide, by decide, by decide +kernel⟩, by decide⟩
set_option maxRecDepth 100000 in
theorem rm_n_X10_findTimes : rm_okN rm_mt 245 38 0 := ⟨by decide, rm_tb_of 1615 rfl rfl, rm_tb_of 141 rfl rfl, ⟨by decide, by decide, by decide +kernel⟩, by decide⟩
set_option maxRecDepth 100000 in
theorem rm_n_X10_fitsSo : rm_okN rm_mt 245 39 5 := ⟨by decide, rm_tb_of 1546 rfl rfl, rm_tb_of 141 rfl rfl, ⟨by decide, by decide, by decide +kernel⟩, by decide⟩
set_option maxRecDepth 100000 in
theorem rm_n_X10_floor : rm_okN rm_mt 245 40 2 := ⟨by decide, rm_tb_of 1748 rfl rfl, rm_tb_of 141 rfl rfl, ⟨by decide, by decide, by decide +kernel⟩, by decide⟩
set_option maxRecDepth 100000 in
theorem rm_n_X10_floorOf : rm_okN rm_mt 245 41 2 := ⟨by decide, rm_tb_of 1745 rfl rfl, rm_tb_of 141 rfl rfl, ⟨by decide, by decide, by decide +kernel⟩, by decide⟩
set_option maxRecDepth 100000 in
theorem rm_n_X10_four : rm_okN rm_mt 245 42 1 := ⟨by decide, rm_tb_of 1387 rfl rfl, rm_tb_of 141 rfl rfl, ⟨by decide, by decide, by decide +kernel⟩, by decide⟩
set_option maxRecDepth 100000 in
theorem rm_n_X10_gcd : rm_okN rm_mt 245 43 2 := ⟨by decide, rm_tb_of 1520 rfl rfl, rm_tb_of 141 rfl rfl, ⟨by decide, by decide, by decide +kernel⟩, by decide⟩
set_option maxRecDepth 100000 in
theorem rm_n_X10_giveBack : rm_okN rm_mt 245 44 2 := ⟨by decide, rm_tb_of 1578 rfl rfl, rm_tb_of 141 rfl rfl, ⟨by decide, by decide, by decide +kernel⟩, by decide⟩
set_option maxRecDepth 100000 in
theorem rm_n_X10_good : rm_okN rm_mt 245 45 0 := ⟨by decide, rm_tb_of 1399 rfl rfl, rm_tb_of 141 rfl rfl, ⟨by decide, by decide, by decide +kernel⟩, by decide⟩
set_option maxRecDepth 100000 in
theorem rm_n_X10_holdingMany : rm_okN rm_mt 245 46 0 := ⟨by decide, rm_tb_of 1706 rfl rfl, rm_tb_of 141 rfl rfl, ⟨by decide, by decide, by decide +kernel⟩, by decide⟩
set_option maxRecDepth 100000 in
theorem rm_n_X10_holds : rm_okN rm_mt 245 47 1 := ⟨by decide, rm_tb_of 1723 rfl rfl, rm_tb_of 141 rfl rfl, ⟨by decide, by decide, by decide +kernel⟩, by decide⟩
set_option maxRecDepth 100000 in
theorem rm_n_X10_init : rm_okN rm_mt 245 48 0 := ⟨by decide, rm_tb_of 1208 rfl rfl, rm_tb_of 141 rfl rfl, ⟨by decide, by decide, by decide +kernel⟩, by decide⟩
set_option maxRecDepth 100000 in
theorem rm_n_X10_isAtom : rm_okN rm_mt 245 49 1 := ⟨by decide, rm_tb_of 1714 rfl rfl, rm_tb_of 141 rfl rfl, ⟨by decide, by decide, by decide +kernel⟩, by decide⟩
set_option maxRecDepth 100000 in
theorem rm_n_X10_isBefore : rm_okN rm_mt 245 50 2 := ⟨by decide, rm_tb_of 1670 rfl rfl, rm_tb_of 141 rfl rfl, ⟨by decide, by decide, by decide +kernel⟩, by decide⟩
set_option maxRecDepth 100000 in
theorem rm_n_X10_isCell : rm_okN rm_mt 245 51 1 := ⟨by decide, rm_tb_of 1727 rfl rfl, rm_tb_of 141 rfl rfl, ⟨by decide, by decide, by decide +kernel⟩, by decide⟩
set_option maxRecDepth 100000 in
theorem rm_n_X10_isDigit : rm_okN rm_mt 245 52 1 := ⟨by decide, rm_tb_of 1430 rfl rfl, rm_tb_of 141 rfl rfl, ⟨by decide, by decide, by decide +kernel⟩, by decide⟩
set_option maxRecDepth 100000 in
theorem rm_n_X10_isFine : rm_okN rm_mt 245 53 1 := ⟨by decide, rm_tb_of 1462 rfl rfl, rm_tb_of 141 rfl rfl, ⟨by decide, by decide, by decide +kernel⟩, by decide⟩
set_option maxRecDepth 100000 in
theorem rm_n_X10_isNumber : rm_okN rm_mt 245 54 2 := ⟨by decide, rm_tb_of 1779 rfl rfl, rm_tb_of 141 rfl rfl, ⟨by decide, by decide, by decide +kernel⟩, by decide⟩
set_option maxRecDepth 100000 in
theorem rm_n_X10_isRoot : rm_okN rm_mt 245 55 1 := ⟨by decide, rm_tb_of 1739 rfl rfl, rm_tb_of 141 rfl rfl, ⟨by decide, by decide, by decide +kernel⟩, by decide⟩
set_option maxRecDepth 100000 in
theorem rm_n_X10_isSign : rm_okN rm_mt 245 56 1 := ⟨by decide, rm_tb_of 1383 rfl rfl, rm_tb_of 141 rfl rfl, ⟨by decide, by decide, by decide +kernel⟩, by decide⟩
set_option maxRecDepth 100000 in
theorem rm_n_X10_isSo : rm_okN rm_mt 245 57 1 := ⟨by decide, rm_tb_of 1698 rfl rfl, rm_tb_of 141 rfl rfl, ⟨by decide, by decide, by decide +kernel⟩, by decide⟩
set_option maxRecDepth 100000 in
theorem rm_n_X10_isToken : rm_okN rm_mt 245 58 1 := ⟨by decide, rm_tb_of 1441 rfl rfl, rm_tb_of 141 rfl rfl, ⟨by decide, by decide, by decide +kernel⟩, by decide⟩
set_option maxRecDepth 100000 in
theorem rm_n_X10_join : rm_okN rm_mt 245 59 1 := ⟨by decide, rm_tb_of 1610 rfl rfl, rm_tb_of 141 rfl rfl, ⟨by decide, by decide, by decide +kernel⟩, by decide⟩
set_option maxRecDepth 100000 in
theorem rm_n_X10_joined : rm_okN rm_mt 245 60 4 := ⟨by decide, rm_tb_of 1570 rfl rfl, rm_tb_of 141 rfl rfl, ⟨by decide, by decide, by decide +kernel⟩, by decide⟩
set_option maxRecDepth 100000 in
theorem rm_n_X10_judge : rm_okN rm_mt 245 61 1 := ⟨by decide, rm_tb_of 1719 rfl rfl, rm_tb_of 141 rfl rfl, ⟨by decide, by decide, by decide +kernel⟩, by decide⟩
set_option maxRecDepth 100000 in
theorem rm_n_X10_keep : rm_okN rm_mt 245 62 2 := ⟨by decide, rm_tb_of 1550 rfl rfl, rm_tb_of 141 rfl rfl, ⟨by decide, by decide, by decide +kernel⟩, by decide⟩
set_option maxRecDepth 100000 in
theorem rm_n_X10_less : rm_okN rm_mt 245 63 1 := ⟨by decide, rm_tb_of 1562 rfl rfl, rm_tb_of 141 rfl rfl, ⟨by decide, by decide, by decide +kernel⟩, by decide⟩
set_option maxRecDepth 100000 in
theorem rm_n_X10_limbs : rm_okN rm_mt 245 64 1 := ⟨by decide, rm_tb_of 1532 rfl rfl, rm_tb_of 141 rfl rfl, ⟨by decide, by decide, by decide +kernel⟩, by decide⟩
set_option maxRecDepth 100000 in
theorem rm_n_X10_load : rm_okN rm_mt 245 65 0 := ⟨by decide, rm_tb_of 1391 rfl rfl, rm_tb_of 141 rfl rfl, ⟨by decide, by decide, by decide +kernel⟩, by decide⟩
set_option maxRecDepth 100000 in
theorem rm_n_X10_look : rm_okN rm_mt 245 66 0 := ⟨by decide, rm_tb_of 1449 rfl rfl, rm_tb_of 141 rfl rfl, ⟨by decide, by decide, by decide +kernel⟩, by decide⟩
set_option maxRecDepth 100000 in
theorem rm_n_X10_make : rm_okN rm_mt 245 67 1 := ⟨by decide, rm_tb_of 1476 rfl rfl, rm_tb_of 141 rfl rfl, ⟨by decide, by decide, by decide +kernel⟩, by decide⟩
set_option maxRecDepth 100000 in
theorem rm_n_X10_makeChain : rm_okN rm_mt 245 68 1 := ⟨by decide, rm_tb_of 1623 rfl rfl, rm_tb_of 141 rfl rfl, ⟨by decide, by decide, by decide +kernel⟩, by decide⟩
set_option maxRecDepth 100000 in
theorem rm_n_X10_minus : rm_okN rm_mt 245 69 2 := ⟨by decide, rm_tb_of 1558 rfl rfl, rm_tb_of 141 rfl rfl, ⟨by decide, by decide, by decide +kernel⟩, by decide⟩
set_option maxRecDepth 100000 in
theorem rm_n_X10_mostBelow : rm_okN rm_mt 245 70 2 := ⟨by decide, rm_tb_of 1772 rfl rfl, rm_tb_of 141 rfl rfl, ⟨by decide, by decide, by decide +kernel⟩, by decide⟩
set_option maxRecDepth 100000 in
theorem rm_n_X10_multiply : rm_okN rm_mt 245 71 1 := ⟨by decide, rm_tb_of 1458 rfl rfl, rm_tb_of 141 rfl rfl, ⟨by decide, by decide, by decide +kernel⟩, by decide⟩
set_option maxRecDepth 100000 in
theorem rm_n_X10_newPolynomial : rm_okN rm_mt 245 72 1 := ⟨by decide, rm_tb_of 1496 rfl rfl, rm_tb_of 141 rfl rfl, ⟨by decide, by decide, by decide +kernel⟩, by decide⟩
set_option maxRecDepth 100000 in
theorem rm_n_X10_number : rm_okN rm_mt 245 73 0 := ⟨by decide, rm_tb_of 1434 rfl rfl, rm_tb_of 141 rfl rfl, ⟨by decide, by decide, by decide +kernel⟩, by decide⟩
set_option maxRecDepth 100000 in
theorem rm_n_X10_over : rm_okN rm_mt 245 74 2 := ⟨by decide, rm_tb_of 1554 rfl rfl, rm_tb_of 141 rfl rfl, ⟨by decide, by decide, by decide +kernel⟩, by decide⟩
set_option maxRecDepth 100000 in
theorem rm_n_X10_part1 : rm_okN rm_mt 245 75 1 := ⟨by decide, rm_tb_of 1488 rfl rfl, rm_tb_of 141 rfl rfl, ⟨by decide, by decide, by decide +kernel⟩, by decide⟩
set_option maxRecDepth 100000 in
theorem rm_n_X10_peek : rm_okN rm_mt 245 76 0 := ⟨by decide, rm_tb_of 1403 rfl rfl, rm_tb_of 141 rfl rfl, ⟨by decide, by decide, by decide +kernel⟩, by decide⟩
set_option maxRecDepth 100000 in
theorem rm_n_X10_plus : rm_okN rm_mt 245 77 2 := ⟨by decide, rm_tb_of 1566 rfl rfl, rm_tb_of 141 rfl rfl, ⟨by decide, by decide, by decide +kernel⟩, by decide⟩
set_option maxRecDepth 100000 in
theorem rm_n_X10_plus1 : rm_okN rm_mt 245 78 2 := ⟨by decide, rm_tb_of 1631 rfl rfl, rm_tb_of 141 rfl rfl, ⟨by decide, by decide, by decide +kernel⟩, by decide⟩
set_option maxRecDepth 100000 in
theorem rm_n_X10_polynomialOf : rm_okN rm_mt 245 79 1 := ⟨by decide, rm_tb_of 1492 rfl rfl, rm_tb_of 141 rfl rfl, ⟨by decide, by decide, by decide +kernel⟩, by decide⟩
set_option maxRecDepth 100000 in
theorem rm_n_X10_powerOfTwo : rm_okN rm_mt 245 80 1 := ⟨by decide, rm_tb_of 1627 rfl rfl, rm_tb_of 141 rfl rfl, ⟨by decide, by decide, by decide +kernel⟩, by decide⟩
set_option maxRecDepth 100000 in
theorem rm_n_X10_raise : rm_okN rm_mt 245 81 2 := ⟨by decide, rm_tb_of 1453 rfl rfl, rm_tb_of 141 rfl rfl, ⟨by decide, by decide, by decide +kernel⟩, by decide⟩
set_option maxRecDepth 100000 in
theorem rm_n_X10_readAtom : rm_okN rm_mt 245 82 0 := ⟨by decide, rm_tb_of 1415 rfl rfl, rm_tb_of 141 rfl rfl, ⟨by decide, by decide, by decide +kernel⟩, by decide⟩
set_option maxRecDepth 100000 in
theorem rm_n_X10_readSum : rm_okN rm_mt 245 83 0 := ⟨by decide, rm_tb_of 1419 rfl rfl, rm_tb_of 141 rfl rfl, ⟨by decide, by decide, by decide +kernel⟩, by decide⟩
set_option maxRecDepth 100000 in
theorem rm_n_X10_readText : rm_okN rm_mt 245 84 0 := ⟨by decide, rm_tb_of 1395 rfl rfl, rm_tb_of 141 rfl rfl, ⟨by decide, by decide, by decide +kernel⟩, by decide⟩
set_option maxRecDepth 100000 in
theorem rm_n_X10_refine : rm_okN rm_mt 245 85 1 := ⟨by decide, rm_tb_of 1678 rfl rfl, rm_tb_of 141 rfl rfl, ⟨by decide, by decide, by decide +kernel⟩, by decide⟩
set_option maxRecDepth 100000 in
theorem rm_n_X10_reserve : rm_okN rm_mt 245 86 1 := ⟨by decide, rm_tb_of 1651 rfl rfl, rm_tb_of 141 rfl rfl, ⟨by decide, by decide, by decide +kernel⟩, by decide⟩
set_option maxRecDepth 100000 in
theorem rm_n_X10_restOf : rm_okN rm_mt 245 87 2 := ⟨by decide, rm_tb_of 1594 rfl rfl, rm_tb_of 141 rfl rfl, ⟨by decide, by decide, by decide +kernel⟩, by decide⟩
set_option maxRecDepth 100000 in
theorem rm_n_X10_restRoots : rm_okN rm_mt 245 88 2 := ⟨by decide, rm_tb_of 1666 rfl rfl, rm_tb_of 141 rfl rfl, ⟨by decide, by decide, by decide +kernel⟩, by decide⟩
set_option maxRecDepth 100000 in
theorem rm_n_X10_root : rm_okN rm_mt 245 89 2 := ⟨by decide, rm_tb_of 1735 rfl rfl, rm_tb_of 141 rfl rfl, ⟨by decide, by decide, by decide +kernel⟩, by decide⟩
set_option maxRecDepth 100000 in
theorem rm_n_X10_set : rm_okN rm_mt 245 90 3 := ⟨by decide, rm_tb_of 1504 rfl rfl, rm_tb_of 141 rfl rfl, ⟨by decide, by decide, by decide +kernel⟩, by decide⟩
set_option maxRecDepth 100000 in
theorem rm_n_X10_settle : rm_okN rm_mt 245 91 1 := ⟨by decide, rm_tb_of 1480 rfl rfl, rm_tb_of 141 rfl rfl, ⟨by decide, by decide, by decide +kernel⟩, by decide⟩
set_option maxRecDepth 100000 in
theorem rm_n_X10_sgn : rm_okN rm_mt 245 92 1 := ⟨by decide, rm_tb_of 1516 rfl rfl, rm_tb_of 141 rfl rfl, ⟨by decide, by decide, by decide +kernel⟩, by decide⟩
set_option maxRecDepth 100000 in
theorem rm_n_X10_share : rm_okN rm_mt 245 93 2 := ⟨by decide, rm_tb_of 1598 rfl rfl, rm_tb_of 141 rfl rfl, ⟨by decide, by decide, by decide +kernel⟩, by decide⟩
set_option maxRecDepth 100000 in
theorem rm_n_X10_sign : rm_okN rm_mt 245 94 2 := ⟨by decide, rm_tb_of 1731 rfl rfl, rm_tb_of 141 rfl rfl, ⟨by decide, by decide, by decide +kernel⟩, by decide⟩
set_option maxRecDepth 100000 in
theorem rm_n_X10_signAll : rm_okN rm_mt 245 95 0 := ⟨by decide, rm_tb_of 1682 rfl rfl, rm_tb_of 141 rfl rfl, ⟨by decide, by decide, by decide +kernel⟩, by decide⟩
set_option maxRecDepth 100000 in
theorem rm_n_X10_signAt : rm_okN rm_mt 245 96 3 := ⟨by decide, rm_tb_of 1785 rfl rfl, rm_tb_of 141 rfl rfl, ⟨by decide, by decide, by decide +kernel⟩, by decide⟩
set_option maxRecDepth 100000 in
theorem rm_n_X10_signAt2 : rm_okN rm_mt 245 97 3 := ⟨by decide, rm_tb_of 1643 rfl rfl, rm_tb_of 141 rfl rfl, ⟨by decide, by decide, by decide +kernel⟩, by decide⟩
set_option maxRecDepth 100000 in
theorem rm_n_X10_simple : rm_okN rm_mt 245 98 2 := ⟨by decide, rm_tb_of 1765 rfl rfl, rm_tb_of 141 rfl rfl, ⟨by decide, by decide, by decide +kernel⟩, by decide⟩
set_option maxRecDepth 100000 in
theorem rm_n_X10_stay : rm_okN rm_mt 245 99 1 := ⟨by decide, rm_tb_of 1602 rfl rfl, rm_tb_of 141 rfl rfl, ⟨by decide, by decide, by decide +kernel⟩, by decide⟩
set_option maxRecDepth 100000 in
theorem rm_n_X10_takeBase : rm_okN rm_mt 245 100 1 := ⟨by decide, rm_tb_of 1427 rfl rfl, rm_tb_of 141 rfl rfl, ⟨by decide, by decide, by decide +kernel⟩, by decide⟩
set_option maxRecDepth 100000 in
theorem rm_n_X10_times : rm_okN rm_mt 245 101 2 := ⟨by decide, rm_tb_of 1752 rfl rfl, rm_tb_of 141 rfl rfl, ⟨by decide, by decide, by decide +kernel⟩, by decide⟩
set_option maxRecDepth 100000 in
theorem rm_n_X10_timesAt : rm_okN rm_mt 245 102 2 := ⟨by decide, rm_tb_of 1690 rfl rfl, rm_tb_of 141 rfl rfl, ⟨by decide, by decide, by decide +kernel⟩, by decide⟩
set_option maxRecDepth 100000 in
theorem rm_n_X10_type : rm_okN rm_mt 245 103 1 := ⟨by decide, rm_tb_of 1380 rfl rfl, rm_tb_of 141 rfl rfl, ⟨by decide, by decide, by decide +kernel⟩, by decide⟩
set_option maxRecDepth 100000 in
theorem rm_n_X10_valueOf : rm_okN rm_mt 245 104 1 := ⟨by decide, rm_tb_of 1659 rfl rfl, rm_tb_of 141 rfl rfl, ⟨by decide, by decide, by decide +kernel⟩, by decide⟩
set_option maxRecDepth 100000 in
theorem rm_n_X10_wait1 : rm_okN rm_mt 245 105 1 := ⟨by decide, rm_tb_of 1411 rfl rfl, rm_tb_of 141 rfl rfl, ⟨by decide, by decide, by decide +kernel⟩, by decide⟩
set_option maxRecDepth 100000 in
theorem rm_n_X10_weigh : rm_okN rm_mt 245 106 2 := ⟨by decide, rm_tb_of 1574 rfl rfl, rm_tb_of 141 rfl rfl, ⟨by decide, by decide, by decide +kernel⟩, by decide⟩
set_option maxRecDepth 100000 in
theorem rm_n_X10_whole : rm_okN rm_mt 245 107 1 := ⟨by decide, rm_tb_of 1500 rfl rfl, rm_tb_of 141 rfl rfl, ⟨by decide, by decide, by decide +kernel⟩, by decide⟩
set_option maxRecDepth 100000 in
theorem rm_n_X1_add : rm_okN rm_mt 245 108 2 := ⟨by decide, rm_tb_of 910 rfl rfl, rm_tb_of 137 rfl rfl, ⟨by decide, by decide, by decide +kernel⟩, by decide⟩
set_option maxRecDepth 100000 in
theorem rm_n_X1_bits : rm_okN rm_mt 245 109 0 := ⟨by decide, rm_tb_of 1010 rfl rfl, rm_tb_of 137 rfl rfl, ⟨by decide, by decide, by decide +kernel⟩, by decide⟩
set_option maxRecDepth 100000 in
theorem rm_n_X1_compareSize : rm_okN rm_mt 245 110 1 := ⟨by decide, rm_tb_of 1015 rfl rfl, rm_tb_of 137 rfl rfl, ⟨by decide, by decide, by decide +kernel⟩, by decide⟩
set_option maxRecDepth 100000 in
theorem rm_n_X1_copy : rm_okN rm_mt 245 111 1 := ⟨by decide, rm_tb_of 914 rfl rfl, rm_tb_of 137 rfl rfl, ⟨by decide, by decide, by decide +kernel⟩, by decide⟩
set_option maxRecDepth 100000 in
theorem rm_n_X1_grow : rm_okN rm_mt 245 112 1 := ⟨by decide, rm_tb_of 921 rfl rfl, rm_tb_of 137 rfl rfl, ⟨by decide, by decide, by decide +kernel⟩, by decide⟩
set_option maxRecDepth 100000 in
theorem rm_n_X1_init : rm_okN rm_mt 245 113 1 := ⟨by decide, rm_tb_of 335 rfl rfl, rm_tb_of 137 rfl rfl, ⟨by decide, by decide, by decide +kernel⟩, by decide⟩
set_option maxRecDepth 100000 in
theorem rm_n_X1_isEven : rm_okN rm_mt 245 114 0 := ⟨by decide, rm_tb_of 957 rfl rfl, rm_tb_of 137 rfl rfl, ⟨by decide, by decide, by decide +kernel⟩, by decide⟩
set_option maxRecDepth 100000 in
theorem rm_n_X1_set : rm_okN rm_mt 245 115 1 := ⟨by decide, rm_tb_of 355 rfl rfl, rm_tb_of 137 rfl rfl, ⟨by decide, by decide, by decide +kernel⟩, by decide⟩
set_option maxRecDepth 100000 in
theorem rm_n_X1_setProduct : rm_okN rm_mt 245 116 2 := ⟨by decide, rm_tb_of 998 rfl rfl, rm_tb_of 137 rfl rfl, ⟨by decide, by decide, by decide +kernel⟩, by decide⟩
set_option maxRecDepth 100000 in
theorem rm_n_X1_shiftDown : rm_okN rm_mt 245 117 1 := ⟨by decide, rm_tb_of 961 rfl rfl, rm_tb_of 137 rfl rfl, ⟨by decide, by decide, by decide +kernel⟩, by decide⟩
set_option maxRecDepth 100000 in
theorem rm_n_X1_shiftUp : rm_okN rm_mt 245 118 1 := ⟨by decide, rm_tb_of 896 rfl rfl, rm_tb_of 137 rfl rfl, ⟨by decide, by decide, by decide +kernel⟩, by decide⟩
set_option maxRecDepth 100000 in
theorem rm_n_X1_shrink : rm_okN rm_mt 245 119 1 := ⟨by decide, rm_tb_of 925 rfl rfl, rm_tb_of 137 rfl rfl, ⟨by decide, by decide, by decide +kernel⟩, by decide⟩
set_option maxRecDepth 100000 in
theorem rm_n_X1_toLong : rm_okN rm_mt 245 120 0 := ⟨by decide, rm_tb_of 973 rfl rfl, rm_tb_of 137 rfl rfl, ⟨by decide, by decide, by decide +kernel⟩, by decide⟩
set_option maxRecDepth 100000 in
theorem rm_n_X1_trim : rm_okN rm_mt 245 121 0 := ⟨by decide, rm_tb_of 902 rfl rfl, rm_tb_of 137 rfl rfl, ⟨by decide, by decide, by decide +kernel⟩, by decide⟩
set_option maxRecDepth 100000 in
theorem rm_n_X1_width : rm_okN rm_mt 245 122 1 := ⟨by decide, rm_tb_of 883 rfl rfl, rm_tb_of 137 rfl rfl, ⟨by decide, by decide, by decide +kernel⟩, by decide⟩
set_option maxRecDepth 100000 in
theorem rm_n_X2_degreeOf : rm_okN rm_mt 245 123 1 := ⟨by decide, rm_tb_of 827 rfl rfl, rm_tb_of 135 rfl rfl, ⟨by decide, by decide, by decide +kernel⟩, by decide⟩
set_option maxRecDepth 100000 in
theorem rm_n_X2_divide : rm_okN rm_mt 245 124 2 := ⟨by decide, rm_tb_of 843 rfl rfl, rm_tb_of 135 rfl rfl, ⟨by decide, by decide, by decide +kernel⟩, by decide⟩
set_option maxRecDepth 100000 in
theorem rm_n_X2_eliminate : rm_okN rm_mt 245 125 5 := ⟨by decide, rm_tb_of 824 rfl rfl, rm_tb_of 135 rfl rfl, ⟨by decide, by decide, by decide +kernel⟩, by decide⟩
set_option maxRecDepth 100000 in
theorem rm_n_X2_find : rm_okN rm_mt 245 126 2 := ⟨by decide, rm_tb_of 811 rfl rfl, rm_tb_of 135 rfl rfl, ⟨by decide, by decide, by decide +kernel⟩, by decide⟩
set_option maxRecDepth 100000 in
theorem rm_n_X2_imageModulo : rm_okN rm_mt 245 127 3 := ⟨by decide, rm_tb_of 818 rfl rfl, rm_tb_of 135 rfl rfl, ⟨by decide, by decide, by decide +kernel⟩, by decide⟩
set_option maxRecDepth 100000 in
theorem rm_n_X2_init : rm_okN rm_mt 245 128 0 := ⟨by decide, rm_tb_of 265 rfl rfl, rm_tb_of 135 rfl rfl, ⟨by decide, by decide, by decide +kernel⟩, by decide⟩
set_option maxRecDepth 100000 in
theorem rm_n_X2_inverse : rm_okN rm_mt 245 129 2 := ⟨by decide, rm_tb_of 830 rfl rfl, rm_tb_of 135 rfl rfl, ⟨by decide, by decide, by decide +kernel⟩, by decide⟩
set_option maxRecDepth 100000 in
theorem rm_n_X2_rebuild : rm_okN rm_mt 245 130 4 := ⟨by decide, rm_tb_of 837 rfl rfl, rm_tb_of 135 rfl rfl, ⟨by decide, by decide, by decide +kernel⟩, by decide⟩
set_option maxRecDepth 100000 in
theorem rm_n_X3_compareDeeply : rm_okN rm_mt 245 131 2 := ⟨by decide, rm_tb_of 1067 rfl rfl, rm_tb_of 133 rfl rfl, ⟨by decide, by decide, by decide +kernel⟩, by decide⟩
set_option maxRecDepth 100000 in
theorem rm_n_X3_compareQuickly : rm_okN rm_mt 245 132 2 := ⟨by decide, rm_tb_of 1054 rfl rfl, rm_tb_of 133 rfl rfl, ⟨by decide, by decide, by decide +kernel⟩, by decide⟩
set_option maxRecDepth 100000 in
theorem rm_n_X3_compareWith : rm_okN rm_mt 245 133 4 := ⟨by decide, rm_tb_of 1058 rfl rfl, rm_tb_of 133 rfl rfl, ⟨by decide, by decide, by decide +kernel⟩, by decide⟩
set_option maxRecDepth 100000 in
theorem rm_n_X3_giveOwnPiece : rm_okN rm_mt 245 134 2 := ⟨by decide, rm_tb_of 978 rfl rfl, rm_tb_of 133 rfl rfl, ⟨by decide, by decide, by decide +kernel⟩, by decide⟩
set_option maxRecDepth 100000 in
theorem rm_n_X3_guessJump : rm_okN rm_mt 245 135 1 := ⟨by decide, rm_tb_of 1003 rfl rfl, rm_tb_of 133 rfl rfl, ⟨by decide, by decide, by decide +kernel⟩, by decide⟩
set_option maxRecDepth 100000 in
theorem rm_n_X3_init : rm_okN rm_mt 245 136 0 := ⟨by decide, rm_tb_of 251 rfl rfl, rm_tb_of 133 rfl rfl, ⟨by decide, by decide, by decide +kernel⟩, by decide⟩
set_option maxRecDepth 100000 in
theorem rm_n_X3_readBinary : rm_okN rm_mt 245 137 1 := ⟨by decide, rm_tb_of 965 rfl rfl, rm_tb_of 133 rfl rfl, ⟨by decide, by decide, by decide +kernel⟩, by decide⟩
set_option maxRecDepth 100000 in
theorem rm_n_X3_readParts : rm_okN rm_mt 245 138 1 := ⟨by decide, rm_tb_of 1023 rfl rfl, rm_tb_of 133 rfl rfl, ⟨by decide, by decide, by decide +kernel⟩, by decide⟩
set_option maxRecDepth 100000 in
theorem rm_n_X3_scaledFloor : rm_okN rm_mt 245 139 2 := ⟨by decide, rm_tb_of 1143 rfl rfl, rm_tb_of 133 rfl rfl, ⟨by decide, by decide, by decide +kernel⟩, by decide⟩
set_option maxRecDepth 100000 in
theorem rm_n_X3_setSigns : rm_okN rm_mt 245 140 1 := ⟨by decide, rm_tb_of 1040 rfl rfl, rm_tb_of 133 rfl rfl, ⟨by decide, by decide, by decide +kernel⟩, by decide⟩
set_option maxRecDepth 100000 in
theorem rm_n_X3_setValue : rm_okN rm_mt 245 141 4 := ⟨by decide, rm_tb_of 993 rfl rfl, rm_tb_of 133 rfl rfl, ⟨by decide, by decide, by decide +kernel⟩, by decide⟩
set_option maxRecDepth 100000 in
theorem rm_n_X3_settle : rm_okN rm_mt 245 142 2 := ⟨by decide, rm_tb_of 984 rfl rfl, rm_tb_of 133 rfl rfl, ⟨by decide, by decide, by decide +kernel⟩, by decide⟩
set_option maxRecDepth 100000 in
theorem rm_n_X3_sideOf : rm_okN rm_mt 245 143 3 := ⟨by decide, rm_tb_of 1036 rfl rfl, rm_tb_of 133 rfl rfl, ⟨by decide, by decide, by decide +kernel⟩, by decide⟩
set_option maxRecDepth 100000 in
theorem rm_n_X3_signAtFraction : rm_okN rm_mt 245 144 3 := ⟨by decide, rm_tb_of 1063 rfl rfl, rm_tb_of 133 rfl rfl, ⟨by decide, by decide, by decide +kernel⟩, by decide⟩
set_option maxRecDepth 100000 in
theorem rm_n_X3_solve : rm_okN rm_mt 245 145 1 := ⟨by decide, rm_tb_of 862 rfl rfl, rm_tb_of 133 rfl rfl, ⟨by decide, by decide, by decide +kernel⟩, by decide⟩
set_option maxRecDepth 100000 in
theorem rm_n_X3_take : rm_okN rm_mt 245 146 3 := ⟨by decide, rm_tb_of 1019 rfl rfl, rm_tb_of 133 rfl rfl, ⟨by decide, by decide, by decide +kernel⟩, by decide⟩
set_option maxRecDepth 100000 in
theorem rm_n_X3_tighten : rm_okN rm_mt 245 147 3 := ⟨by decide, rm_tb_of 988 rfl rfl, rm_tb_of 133 rfl rfl, ⟨by decide, by decide, by decide +kernel⟩, by decide⟩
set_option maxRecDepth 100000 in
theorem rm_n_X3_tryFraction : rm_okN rm_mt 245 148 2 := ⟨by decide, rm_tb_of 1028 rfl rfl, rm_tb_of 133 rfl rfl, ⟨by decide, by decide, by decide +kernel⟩, by decide⟩
set_option maxRecDepth 100000 in
theorem rm_n_X4_descend : rm_okN rm_mt 245 149 2 := ⟨by decide, rm_tb_of 1179 rfl rfl, rm_tb_of 130 rfl rfl, ⟨by decide, by decide, by decide +kernel⟩, by decide⟩
set_option maxRecDepth 100000 in
theorem rm_n_X4_fillAt : rm_okN rm_mt 245 150 1 := ⟨by decide, rm_tb_of 1184 rfl rfl, rm_tb_of 130 rfl rfl, ⟨by decide, by decide, by decide +kernel⟩, by decide⟩
set_option maxRecDepth 100000 in
theorem rm_n_X4_fillBetween : rm_okN rm_mt 245 151 1 := ⟨by decide, rm_tb_of 1170 rfl rfl, rm_tb_of 130 rfl rfl, ⟨by decide, by decide, by decide +kernel⟩, by decide⟩
set_option maxRecDepth 100000 in
theorem rm_n_X4_fillCells : rm_okN rm_mt 245 152 0 := ⟨by decide, rm_tb_of 1071 rfl rfl, rm_tb_of 130 rfl rfl, ⟨by decide, by decide, by decide +kernel⟩, by decide⟩
set_option maxRecDepth 100000 in
theorem rm_n_X4_fillSigns : rm_okN rm_mt 245 153 1 := ⟨by decide, rm_tb_of 1075 rfl rfl, rm_tb_of 130 rfl rfl, ⟨by decide, by decide, by decide +kernel⟩, by decide⟩
set_option maxRecDepth 100000 in
theorem rm_n_X4_init : rm_okN rm_mt 245 154 0 := ⟨by decide, rm_tb_of 160 rfl rfl, rm_tb_of 130 rfl rfl, ⟨by decide, by decide, by decide +kernel⟩, by decide⟩
set_option maxRecDepth 100000 in
theorem rm_n_X4_insert : rm_okN rm_mt 245 155 1 := ⟨by decide, rm_tb_of 1044 rfl rfl, rm_tb_of 130 rfl rfl, ⟨by decide, by decide, by decide +kernel⟩, by decide⟩
set_option maxRecDepth 100000 in
theorem rm_n_X4_locate : rm_okN rm_mt 245 156 3 := ⟨by decide, rm_tb_of 1174 rfl rfl, rm_tb_of 130 rfl rfl, ⟨by decide, by decide, by decide +kernel⟩, by decide⟩
set_option maxRecDepth 100000 in
theorem rm_n_X4_rootAt : rm_okN rm_mt 245 157 1 := ⟨by decide, rm_tb_of 1048 rfl rfl, rm_tb_of 130 rfl rfl, ⟨by decide, by decide, by decide +kernel⟩, by decide⟩
set_option maxRecDepth 100000 in
theorem rm_n_X4_rootsOf : rm_okN rm_mt 245 158 1 := ⟨by decide, rm_tb_of 1107 rfl rfl, rm_tb_of 130 rfl rfl, ⟨by decide, by decide, by decide +kernel⟩, by decide⟩
set_option maxRecDepth 100000 in
theorem rm_n_X4_trueAtoms : rm_okN rm_mt 245 159 1 := ⟨by decide, rm_tb_of 1085 rfl rfl, rm_tb_of 130 rfl rfl, ⟨by decide, by decide, by decide +kernel⟩, by decide⟩
set_option maxRecDepth 100000 in
theorem rm_n_X5_begin : rm_okN rm_mt 245 160 2 := ⟨by decide, rm_tb_of 892 rfl rfl, rm_tb_of 136 rfl rfl, ⟨by decide, by decide, by decide +kernel⟩, by decide⟩
set_option maxRecDepth 100000 in
theorem rm_n_X5_changes : rm_okN rm_mt 245 161 0 := ⟨by decide, rm_tb_of 941 rfl rfl, rm_tb_of 136 rfl rfl, ⟨by decide, by decide, by decide +kernel⟩, by decide⟩
set_option maxRecDepth 100000 in
theorem rm_n_X5_dropZero : rm_okN rm_mt 245 162 0 := ⟨by decide, rm_tb_of 936 rfl rfl, rm_tb_of 136 rfl rfl, ⟨by decide, by decide, by decide +kernel⟩, by decide⟩
set_option maxRecDepth 100000 in
theorem rm_n_X5_halve : rm_okN rm_mt 245 163 0 := ⟨by decide, rm_tb_of 949 rfl rfl, rm_tb_of 136 rfl rfl, ⟨by decide, by decide, by decide +kernel⟩, by decide⟩
set_option maxRecDepth 100000 in
theorem rm_n_X5_init : rm_okN rm_mt 245 164 0 := ⟨by decide, rm_tb_of 328 rfl rfl, rm_tb_of 136 rfl rfl, ⟨by decide, by decide, by decide +kernel⟩, by decide⟩
set_option maxRecDepth 100000 in
theorem rm_n_X5_mixed : rm_okN rm_mt 245 165 1 := ⟨by decide, rm_tb_of 945 rfl rfl, rm_tb_of 136 rfl rfl, ⟨by decide, by decide, by decide +kernel⟩, by decide⟩
set_option maxRecDepth 100000 in
theorem rm_n_X5_moveBy : rm_okN rm_mt 245 166 2 := ⟨by decide, rm_tb_of 906 rfl rfl, rm_tb_of 136 rfl rfl, ⟨by decide, by decide, by decide +kernel⟩, by decide⟩
set_option maxRecDepth 100000 in
theorem rm_n_X5_part : rm_okN rm_mt 245 167 3 := ⟨by decide, rm_tb_of 875 rfl rfl, rm_tb_of 136 rfl rfl, ⟨by decide, by decide, by decide +kernel⟩, by decide⟩
set_option maxRecDepth 100000 in
theorem rm_n_X5_reach : rm_okN rm_mt 245 168 1 := ⟨by decide, rm_tb_of 878 rfl rfl, rm_tb_of 136 rfl rfl, ⟨by decide, by decide, by decide +kernel⟩, by decide⟩
set_option maxRecDepth 100000 in
theorem rm_n_X5_stepOn : rm_okN rm_mt 245 169 1 := ⟨by decide, rm_tb_of 953 rfl rfl, rm_tb_of 136 rfl rfl, ⟨by decide, by decide, by decide +kernel⟩, by decide⟩
set_option maxRecDepth 100000 in
theorem rm_n_X6_copy : rm_okN rm_mt 245 170 1 := ⟨by decide, rm_tb_of 759 rfl rfl, rm_tb_of 132 rfl rfl, ⟨by decide, by decide, by decide +kernel⟩, by decide⟩
set_option maxRecDepth 100000 in
theorem rm_n_X6_gcd : rm_okN rm_mt 245 171 2 := ⟨by decide, rm_tb_of 797 rfl rfl, rm_tb_of 132 rfl rfl, ⟨by decide, by decide, by decide +kernel⟩, by decide⟩
set_option maxRecDepth 100000 in
theorem rm_n_X6_init : rm_okN rm_mt 245 172 0 := ⟨by decide, rm_tb_of 173 rfl rfl, rm_tb_of 132 rfl rfl, ⟨by decide, by decide, by decide +kernel⟩, by decide⟩
set_option maxRecDepth 100000 in
theorem rm_n_X6_lead : rm_okN rm_mt 245 173 0 := ⟨by decide, rm_tb_of 802 rfl rfl, rm_tb_of 132 rfl rfl, ⟨by decide, by decide, by decide +kernel⟩, by decide⟩
set_option maxRecDepth 100000 in
theorem rm_n_X6_makePrimitive : rm_okN rm_mt 245 174 0 := ⟨by decide, rm_tb_of 794 rfl rfl, rm_tb_of 132 rfl rfl, ⟨by decide, by decide, by decide +kernel⟩, by decide⟩
set_option maxRecDepth 100000 in
theorem rm_n_X6_measure : rm_okN rm_mt 245 175 0 := ⟨by decide, rm_tb_of 773 rfl rfl, rm_tb_of 132 rfl rfl, ⟨by decide, by decide, by decide +kernel⟩, by decide⟩
set_option maxRecDepth 100000 in
theorem rm_n_X6_setConstant : rm_okN rm_mt 245 176 1 := ⟨by decide, rm_tb_of 742 rfl rfl, rm_tb_of 132 rfl rfl, ⟨by decide, by decide, by decide +kernel⟩, by decide⟩
set_option maxRecDepth 100000 in
theorem rm_n_X6_setLinear : rm_okN rm_mt 245 177 2 := ⟨by decide, rm_tb_of 738 rfl rfl, rm_tb_of 132 rfl rfl, ⟨by decide, by decide, by decide +kernel⟩, by decide⟩
set_option maxRecDepth 100000 in
theorem rm_n_X6_setSlopeOf : rm_okN rm_mt 245 178 1 := ⟨by decide, rm_tb_of 806 rfl rfl, rm_tb_of 132 rfl rfl, ⟨by decide, by decide, by decide +kernel⟩, by decide⟩
set_option maxRecDepth 100000 in
theorem rm_n_X7_accept : rm_okN rm_mt 245 179 2 := ⟨by decide, rm_tb_of 768 rfl rfl, rm_tb_of 131 rfl rfl, ⟨by decide, by decide, by decide +kernel⟩, by decide⟩
set_option maxRecDepth 100000 in
theorem rm_n_X7_addTo : rm_okN rm_mt 245 180 4 := ⟨by decide, rm_tb_of 780 rfl rfl, rm_tb_of 131 rfl rfl, ⟨by decide, by decide, by decide +kernel⟩, by decide⟩
set_option maxRecDepth 100000 in
theorem rm_n_X7_emit : rm_okN rm_mt 245 181 1 := ⟨by decide, rm_tb_of 785 rfl rfl, rm_tb_of 131 rfl rfl, ⟨by decide, by decide, by decide +kernel⟩, by decide⟩
set_option maxRecDepth 100000 in
theorem rm_n_X7_expect : rm_okN rm_mt 245 182 1 := ⟨by decide, rm_tb_of 751 rfl rfl, rm_tb_of 131 rfl rfl, ⟨by decide, by decide, by decide +kernel⟩, by decide⟩
set_option maxRecDepth 100000 in
theorem rm_n_X7_fail : rm_okN rm_mt 245 183 2 := ⟨by decide, rm_tb_of 693 rfl rfl, rm_tb_of 131 rfl rfl, ⟨by decide, by decide, by decide +kernel⟩, by decide⟩
set_option maxRecDepth 100000 in
theorem rm_n_X7_fulfilledBy : rm_okN rm_mt 245 184 1 := ⟨by decide, rm_tb_of 1089 rfl rfl, rm_tb_of 131 rfl rfl, ⟨by decide, by decide, by decide +kernel⟩, by decide⟩
set_option maxRecDepth 100000 in
theorem rm_n_X7_init : rm_okN rm_mt 245 185 0 := ⟨by decide, rm_tb_of 166 rfl rfl, rm_tb_of 131 rfl rfl, ⟨by decide, by decide, by decide +kernel⟩, by decide⟩
set_option maxRecDepth 100000 in
theorem rm_n_X7_isDigit : rm_okN rm_mt 245 186 1 := ⟨by decide, rm_tb_of 606 rfl rfl, rm_tb_of 131 rfl rfl, ⟨by decide, by decide, by decide +kernel⟩, by decide⟩
set_option maxRecDepth 100000 in
theorem rm_n_X7_look : rm_okN rm_mt 245 187 0 := ⟨by decide, rm_tb_of 603 rfl rfl, rm_tb_of 131 rfl rfl, ⟨by decide, by decide, by decide +kernel⟩, by decide⟩
set_option maxRecDepth 100000 in
theorem rm_n_X7_multiply : rm_okN rm_mt 245 188 3 := ⟨by decide, rm_tb_of 764 rfl rfl, rm_tb_of 131 rfl rfl, ⟨by decide, by decide, by decide +kernel⟩, by decide⟩
set_option maxRecDepth 100000 in
theorem rm_n_X7_negate : rm_okN rm_mt 245 189 1 := ⟨by decide, rm_tb_of 776 rfl rfl, rm_tb_of 131 rfl rfl, ⟨by decide, by decide, by decide +kernel⟩, by decide⟩
set_option maxRecDepth 100000 in
theorem rm_n_X7_raise : rm_okN rm_mt 245 190 3 := ⟨by decide, rm_tb_of 755 rfl rfl, rm_tb_of 131 rfl rfl, ⟨by decide, by decide, by decide +kernel⟩, by decide⟩
set_option maxRecDepth 100000 in
theorem rm_n_X7_read : rm_okN rm_mt 245 191 1 := ⟨by decide, rm_tb_of 596 rfl rfl, rm_tb_of 131 rfl rfl, ⟨by decide, by decide, by decide +kernel⟩, by decide⟩
set_option maxRecDepth 100000 in
theorem rm_n_X7_readAll : rm_okN rm_mt 245 192 1 := ⟨by decide, rm_tb_of 701 rfl rfl, rm_tb_of 131 rfl rfl, ⟨by decide, by decide, by decide +kernel⟩, by decide⟩
set_option maxRecDepth 100000 in
theorem rm_n_X7_readAtom : rm_okN rm_mt 245 193 0 := ⟨by decide, rm_tb_of 713 rfl rfl, rm_tb_of 131 rfl rfl, ⟨by decide, by decide, by decide +kernel⟩, by decide⟩
set_option maxRecDepth 100000 in
theorem rm_n_X7_readBase : rm_okN rm_mt 245 194 2 := ⟨by decide, rm_tb_of 729 rfl rfl, rm_tb_of 131 rfl rfl, ⟨by decide, by decide, by decide +kernel⟩, by decide⟩
set_option maxRecDepth 100000 in
theorem rm_n_X7_readNumber : rm_okN rm_mt 245 195 0 := ⟨by decide, rm_tb_of 746 rfl rfl, rm_tb_of 131 rfl rfl, ⟨by decide, by decide, by decide +kernel⟩, by decide⟩
set_option maxRecDepth 100000 in
theorem rm_n_X7_readOne : rm_okN rm_mt 245 196 1 := ⟨by decide, rm_tb_of 705 rfl rfl, rm_tb_of 131 rfl rfl, ⟨by decide, by decide, by decide +kernel⟩, by decide⟩
set_option maxRecDepth 100000 in
theorem rm_n_X7_readPower : rm_okN rm_mt 245 197 2 := ⟨by decide, rm_tb_of 725 rfl rfl, rm_tb_of 131 rfl rfl, ⟨by decide, by decide, by decide +kernel⟩, by decide⟩
set_option maxRecDepth 100000 in
theorem rm_n_X7_readSum : rm_okN rm_mt 245 198 2 := ⟨by decide, rm_tb_of 717 rfl rfl, rm_tb_of 131 rfl rfl, ⟨by decide, by decide, by decide +kernel⟩, by decide⟩
set_option maxRecDepth 100000 in
theorem rm_n_X7_readTerm : rm_okN rm_mt 245 199 2 := ⟨by decide, rm_tb_of 721 rfl rfl, rm_tb_of 131 rfl rfl, ⟨by decide, by decide, by decide +kernel⟩, by decide⟩
set_option maxRecDepth 100000 in
theorem rm_n_X7_readText : rm_okN rm_mt 245 200 1 := ⟨by decide, rm_tb_of 697 rfl rfl, rm_tb_of 131 rfl rfl, ⟨by decide, by decide, by decide +kernel⟩, by decide⟩
set_option maxRecDepth 100000 in
theorem rm_n_X7_slot : rm_okN rm_mt 245 201 1 := ⟨by decide, rm_tb_of 733 rfl rfl, rm_tb_of 131 rfl rfl, ⟨by decide, by decide, by decide +kernel⟩, by decide⟩
set_option maxRecDepth 100000 in
theorem rm_n_X7_step : rm_okN rm_mt 245 202 0 := ⟨by decide, rm_tb_of 709 rfl rfl, rm_tb_of 131 rfl rfl, ⟨by decide, by decide, by decide +kernel⟩, by decide⟩
set_option maxRecDepth 100000 in
theorem rm_n_X8_init : rm_okN rm_mt 245 203 0 := ⟨by decide, rm_tb_of 386 rfl rfl, rm_tb_of 140 rfl rfl, ⟨by decide, by decide, by decide +kernel⟩, by decide⟩
set_option maxRecDepth 100000 in
theorem rm_n_X8_setFraction : rm_okN rm_mt 245 204 2 := ⟨by decide, rm_tb_of 866 rfl rfl, rm_tb_of 140 rfl rfl, ⟨by decide, by decide, by decide +kernel⟩, by decide⟩
set_option maxRecDepth 100000 in
theorem rm_n_X8_start : rm_okN rm_mt 245 205 3 := ⟨by decide, rm_tb_of 931 rfl rfl, rm_tb_of 140 rfl rfl, ⟨by decide, by decide, by decide +kernel⟩, by decide⟩
set_option maxRecDepth 100000 in
theorem rm_n_X9_atom : rm_okN rm_mt 245 206 2 := ⟨by decide, rm_tb_of 1098 rfl rfl, rm_tb_of 129 rfl rfl, ⟨by decide, by decide, by decide +kernel⟩, by decide⟩
set_option maxRecDepth 100000 in
theorem rm_n_X9_cellOf : rm_okN rm_mt 245 207 2 := ⟨by decide, rm_tb_of 1188 rfl rfl, rm_tb_of 129 rfl rfl, ⟨by decide, by decide, by decide +kernel⟩, by decide⟩
set_option maxRecDepth 100000 in
theorem rm_n_X9_common : rm_okN rm_mt 245 208 1 := ⟨by decide, rm_tb_of 1157 rfl rfl, rm_tb_of 129 rfl rfl, ⟨by decide, by decide, by decide +kernel⟩, by decide⟩
set_option maxRecDepth 100000 in
theorem rm_n_X9_count : rm_okN rm_mt 245 209 1 := ⟨by decide, rm_tb_of 1094 rfl rfl, rm_tb_of 129 rfl rfl, ⟨by decide, by decide, by decide +kernel⟩, by decide⟩
set_option maxRecDepth 100000 in
theorem rm_n_X9_exact : rm_okN rm_mt 245 210 2 := ⟨by decide, rm_tb_of 1152 rfl rfl, rm_tb_of 129 rfl rfl, ⟨by decide, by decide, by decide +kernel⟩, by decide⟩
set_option maxRecDepth 100000 in
theorem rm_n_X9_four : rm_okN rm_mt 245 211 1 := ⟨by decide, rm_tb_of 588 rfl rfl, rm_tb_of 129 rfl rfl, ⟨by decide, by decide, by decide +kernel⟩, by decide⟩
set_option maxRecDepth 100000 in
theorem rm_n_X9_holds : rm_okN rm_mt 245 212 1 := ⟨by decide, rm_tb_of 1120 rfl rfl, rm_tb_of 129 rfl rfl, ⟨by decide, by decide, by decide +kernel⟩, by decide⟩
set_option maxRecDepth 100000 in
theorem rm_n_X9_init : rm_okN rm_mt 245 213 0 := ⟨by decide, rm_tb_of 152 rfl rfl, rm_tb_of 129 rfl rfl, ⟨by decide, by decide, by decide +kernel⟩, by decide⟩
set_option maxRecDepth 100000 in
theorem rm_n_X9_isAtom : rm_okN rm_mt 245 214 1 := ⟨by decide, rm_tb_of 1102 rfl rfl, rm_tb_of 129 rfl rfl, ⟨by decide, by decide, by decide +kernel⟩, by decide⟩
set_option maxRecDepth 100000 in
theorem rm_n_X9_isCell : rm_okN rm_mt 245 215 1 := ⟨by decide, rm_tb_of 1124 rfl rfl, rm_tb_of 129 rfl rfl, ⟨by decide, by decide, by decide +kernel⟩, by decide⟩
set_option maxRecDepth 100000 in
theorem rm_n_X9_isFraction : rm_okN rm_mt 245 216 2 := ⟨by decide, rm_tb_of 1191 rfl rfl, rm_tb_of 129 rfl rfl, ⟨by decide, by decide, by decide +kernel⟩, by decide⟩
set_option maxRecDepth 100000 in
theorem rm_n_X9_isRoot : rm_okN rm_mt 245 217 1 := ⟨by decide, rm_tb_of 1136 rfl rfl, rm_tb_of 129 rfl rfl, ⟨by decide, by decide, by decide +kernel⟩, by decide⟩
set_option maxRecDepth 100000 in
theorem rm_n_X9_isSign : rm_okN rm_mt 245 218 1 := ⟨by decide, rm_tb_of 584 rfl rfl, rm_tb_of 129 rfl rfl, ⟨by decide, by decide, by decide +kernel⟩, by decide⟩
set_option maxRecDepth 100000 in
theorem rm_n_X9_judge : rm_okN rm_mt 245 219 1 := ⟨by decide, rm_tb_of 1116 rfl rfl, rm_tb_of 129 rfl rfl, ⟨by decide, by decide, by decide +kernel⟩, by decide⟩
set_option maxRecDepth 100000 in
theorem rm_n_X9_load : rm_okN rm_mt 245 220 0 := ⟨by decide, rm_tb_of 592 rfl rfl, rm_tb_of 129 rfl rfl, ⟨by decide, by decide, by decide +kernel⟩, by decide⟩
set_option maxRecDepth 100000 in
theorem rm_n_X9_root : rm_okN rm_mt 245 221 2 := ⟨by decide, rm_tb_of 1132 rfl rfl, rm_tb_of 129 rfl rfl, ⟨by decide, by decide, by decide +kernel⟩, by decide⟩
set_option maxRecDepth 100000 in
theorem rm_n_X9_sign : rm_okN rm_mt 245 222 2 := ⟨by decide, rm_tb_of 1128 rfl rfl, rm_tb_of 129 rfl rfl, ⟨by decide, by decide, by decide +kernel⟩, by decide⟩
set_option maxRecDepth 100000 in
theorem rm_n_X9_signAt : rm_okN rm_mt 245 223 3 := ⟨by decide, rm_tb_of 1202 rfl rfl, rm_tb_of 129 rfl rfl, ⟨by decide, by decide, by decide +kernel⟩, by decide⟩
set_option maxRecDepth 100000 in
theorem rm_n_X9_simple : rm_okN rm_mt 245 224 2 := ⟨by decide, rm_tb_of 1165 rfl rfl, rm_tb_of 129 rfl rfl, ⟨by decide, by decide, by decide +kernel⟩, by decide⟩
set_option maxRecDepth 100000 in
theorem rm_n_X9_times : rm_okN rm_mt 245 225 2 := ⟨by decide, rm_tb_of 1147 rfl rfl, rm_tb_of 129 rfl rfl, ⟨by decide, by decide, by decide +kernel⟩, by decide⟩
set_option maxRecDepth 100000 in
theorem rm_n_X9_type : rm_okN rm_mt 245 226 1 := ⟨by decide, rm_tb_of 581 rfl rfl, rm_tb_of 129 rfl rfl, ⟨by decide, by decide, by decide +kernel⟩, by decide⟩
set_option maxRecDepth 100000 in
theorem rm_n_J0_coder_7d493 : rm_okN rm_mt 245 227 0 := ⟨by decide, rm_tb_of 629 rfl rfl, rm_tb_of 142 rfl rfl, ⟨by decide, by decide, by decide +kernel⟩, by decide⟩
set_option maxRecDepth 100000 in
theorem rm_n_J0_indexOf_0f7a4 : rm_okN rm_mt 245 228 1 := ⟨by decide, rm_tb_of 611 rfl rfl, rm_tb_of 142 rfl rfl, ⟨by decide, by decide, by decide +kernel⟩, by decide⟩
set_option maxRecDepth 100000 in
theorem rm_n_J0_indexOf_7cf53 : rm_okN rm_mt 245 229 2 := ⟨by decide, rm_tb_of 615 rfl rfl, rm_tb_of 142 rfl rfl, ⟨by decide, by decide, by decide +kernel⟩, by decide⟩
set_option maxRecDepth 100000 in
theorem rm_n_J0_isLatin1_aae02 : rm_okN rm_mt 245 230 0 := ⟨by decide, rm_tb_of 619 rfl rfl, rm_tb_of 142 rfl rfl, ⟨by decide, by decide, by decide +kernel⟩, by decide⟩
set_option maxRecDepth 100000 in
theorem rm_n_J0_length_8abf5 : rm_okN rm_mt 245 231 0 := ⟨by decide, rm_tb_of 625 rfl rfl, rm_tb_of 142 rfl rfl, ⟨by decide, by decide, by decide +kernel⟩, by decide⟩
set_option maxRecDepth 100000 in
theorem rm_n_J13_compare_74951 : rm_okN rm_mt 245 232 2 := ⟨by decide, rm_tb_of 358 rfl rfl, rm_tb_of 139 rfl rfl, ⟨by decide, by decide, by decide +kernel⟩, by decide⟩
set_option maxRecDepth 100000 in
theorem rm_n_J1_canEncode_9a6ad : rm_okN rm_mt 245 233 1 := ⟨by decide, rm_tb_of 635 rfl rfl, rm_tb_of 143 rfl rfl, ⟨by decide, by decide, by decide +kernel⟩, by decide⟩
set_option maxRecDepth 100000 in
theorem rm_n_J1_indexOfChar_4cfef : rm_okN rm_mt 245 234 4 := ⟨by decide, rm_tb_of 640 rfl rfl, rm_tb_of 143 rfl rfl, ⟨by decide, by decide, by decide +kernel⟩, by decide⟩
set_option maxRecDepth 100000 in
theorem rm_n_J1_indexOf_4cfef : rm_okN rm_mt 245 235 4 := ⟨by decide, rm_tb_of 632 rfl rfl, rm_tb_of 143 rfl rfl, ⟨by decide, by decide, by decide +kernel⟩, by decide⟩
set_option maxRecDepth 100000 in
theorem rm_n_J9_abs_067f4 : rm_okN rm_mt 245 236 1 := ⟨by decide, rm_tb_of 361 rfl rfl, rm_tb_of 138 rfl rfl, ⟨by decide, by decide, by decide +kernel⟩, by decide⟩
set_option maxRecDepth 100000 in
theorem rm_n_J9_abs_0f7a4 : rm_okN rm_mt 245 237 1 := ⟨by decide, rm_tb_of 1006 rfl rfl, rm_tb_of 138 rfl rfl, ⟨by decide, by decide, by decide +kernel⟩, by decide⟩
set_option maxRecDepth 100000 in
theorem rm_n_J9_floorDiv_7cf53 : rm_okN rm_mt 245 238 2 := ⟨by decide, rm_tb_of 886 rfl rfl, rm_tb_of 138 rfl rfl, ⟨by decide, by decide, by decide +kernel⟩, by decide⟩
set_option maxRecDepth 100000 in
theorem rm_n_J9_floorDiv_f86c9 : rm_okN rm_mt 245 239 2 := ⟨by decide, rm_tb_of 870 rfl rfl, rm_tb_of 138 rfl rfl, ⟨by decide, by decide, by decide +kernel⟩, by decide⟩
set_option maxRecDepth 100000 in
theorem rm_n_J9_floorMod_7cf53 : rm_okN rm_mt 245 240 2 := ⟨by decide, rm_tb_of 1197 rfl rfl, rm_tb_of 138 rfl rfl, ⟨by decide, by decide, by decide +kernel⟩, by decide⟩
set_option maxRecDepth 100000 in
theorem rm_n_J9_floorMod_f86c9 : rm_okN rm_mt 245 241 2 := ⟨by decide, rm_tb_of 821 rfl rfl, rm_tb_of 138 rfl rfl, ⟨by decide, by decide, by decide +kernel⟩, by decide⟩
set_option maxRecDepth 100000 in
theorem rm_n_J9_max_7cf53 : rm_okN rm_mt 245 242 2 := ⟨by decide, rm_tb_of 339 rfl rfl, rm_tb_of 138 rfl rfl, ⟨by decide, by decide, by decide +kernel⟩, by decide⟩
set_option maxRecDepth 100000 in
theorem rm_n_J9_max_f86c9 : rm_okN rm_mt 245 243 2 := ⟨by decide, rm_tb_of 847 rfl rfl, rm_tb_of 138 rfl rfl, ⟨by decide, by decide, by decide +kernel⟩, by decide⟩
set_option maxRecDepth 100000 in
theorem rm_n_J9_min_7cf53 : rm_okN rm_mt 245 244 2 := ⟨by decide, rm_tb_of 599 rfl rfl, rm_tb_of 138 rfl rfl, ⟨by decide, by decide, by decide +kernel⟩, by decide⟩
