/-! Each method's code stands in the tables: the next ones. -/
set_option maxRecDepth 100000 in
theorem eCW_75 : eCWp 75 := fun M h => by cases h; exact List.mem_of_getElem? (i := 1395) rfl
set_option maxRecDepth 100000 in
theorem eCW_76 : eCWp 76 := fun M h => by cases h; exact List.mem_of_getElem? (i := 1403) rfl
set_option maxRecDepth 100000 in
theorem eCW_77 : eCWp 77 := fun M h => by cases h; exact List.mem_of_getElem? (i := 1411) rfl
set_option maxRecDepth 100000 in
theorem eCW_78 : eCWp 78 := fun M h => by cases h; exact List.mem_of_getElem? (i := 1388) rfl
set_option maxRecDepth 100000 in
theorem eCW_79 : eCWp 79 := fun M h => by cases h; exact List.mem_of_getElem? (i := 1384) rfl
set_option maxRecDepth 100000 in
theorem eCW_80 : eCWp 80 := fun M h => by cases h; exact List.mem_of_getElem? (i := 1380) rfl
set_option maxRecDepth 100000 in
theorem eCW_81 : eCWp 81 := fun M h => by cases h; exact List.mem_of_getElem? (i := 1376) rfl
set_option maxRecDepth 100000 in
theorem eCW_82 : eCWp 82 := fun M h => by cases h; exact List.mem_of_getElem? (i := 1372) rfl
set_option maxRecDepth 100000 in
theorem eCW_83 : eCWp 83 := fun M h => by cases h; exact List.mem_of_getElem? (i := 1368) rfl
set_option maxRecDepth 100000 in
theorem eCW_84 : eCWp 84 := fun M h => by cases h; exact List.mem_of_getElem? (i := 1364) rfl
set_option maxRecDepth 100000 in
theorem eCW_85 : eCWp 85 := fun M h => by cases h; exact List.mem_of_getElem? (i := 1360) rfl
set_option maxRecDepth 100000 in
theorem eCW_86 : eCWp 86 := fun M h => by cases h; exact List.mem_of_getElem? (i := 1446) rfl
set_option maxRecDepth 100000 in
theorem eCW_87 : eCWp 87 := fun M h => by cases h; exact List.mem_of_getElem? (i := 1443) rfl
set_option maxRecDepth 100000 in
theorem eCW_88 : eCWp 88 := fun M h => by cases h; exact List.mem_of_getElem? (i := 1439) rfl
set_option maxRecDepth 100000 in
theorem eCW_89 : eCWp 89 := fun M h => by cases h; exact List.mem_of_getElem? (i := 1356) rfl
set_option maxRecDepth 100000 in
theorem eCW_90 : eCWp 90 := fun M h => by cases h; exact List.mem_of_getElem? (i := 1435) rfl
set_option maxRecDepth 100000 in
theorem eCW_91 : eCWp 91 := fun M h => by cases h; exact List.mem_of_getElem? (i := 1419) rfl
set_option maxRecDepth 100000 in
theorem eCW_92 : eCWp 92 := fun M h => by cases h; exact List.mem_of_getElem? (i := 1427) rfl
set_option maxRecDepth 100000 in
theorem eCW_93 : eCWp 93 := fun M h => by cases h; exact List.mem_of_getElem? (i := 1423) rfl
set_option maxRecDepth 100000 in
theorem eCW_94 : eCWp 94 := fun M h => by cases h; exact List.mem_of_getElem? (i := 1431) rfl
set_option maxRecDepth 100000 in
theorem eCW_95 : eCWp 95 := fun M h => by cases h; exact List.mem_of_getElem? (i := 1530) rfl
set_option maxRecDepth 100000 in
theorem eCW_96 : eCWp 96 := fun M h => by cases h; exact List.mem_of_getElem? (i := 1522) rfl
set_option maxRecDepth 100000 in
theorem eCW_97 : eCWp 97 := fun M h => by cases h; exact List.mem_of_getElem? (i := 1450) rfl
set_option maxRecDepth 100000 in
theorem eCW_98 : eCWp 98 := fun M h => by cases h; exact List.mem_of_getElem? (i := 1458) rfl
set_option maxRecDepth 100000 in
theorem eCW_99 : eCWp 99 := fun M h => by cases h; exact List.mem_of_getElem? (i := 1542) rfl
set_option maxRecDepth 100000 in
theorem eCW_100 : eCWp 100 := fun M h => by cases h; exact List.mem_of_getElem? (i := 1454) rfl
set_option maxRecDepth 100000 in
theorem eCW_101 : eCWp 101 := fun M h => by cases h; exact List.mem_of_getElem? (i := 1462) rfl
set_option maxRecDepth 100000 in
theorem eCW_102 : eCWp 102 := fun M h => by cases h; exact List.mem_of_getElem? (i := 1415) rfl
set_option maxRecDepth 100000 in
theorem eCW_103 : eCWp 103 := fun M h => by cases h; exact List.mem_of_getElem? (i := 1474) rfl
set_option maxRecDepth 100000 in
theorem eCW_104 : eCWp 104 := fun M h => by cases h; exact List.mem_of_getElem? (i := 1478) rfl
set_option maxRecDepth 100000 in
theorem eCW_105 : eCWp 105 := fun M h => by cases h; exact List.mem_of_getElem? (i := 1486) rfl
set_option maxRecDepth 100000 in
theorem eCW_106 : eCWp 106 := fun M h => by cases h; exact List.mem_of_getElem? (i := 1490) rfl
set_option maxRecDepth 100000 in
theorem eCW_107 : eCWp 107 := fun M h => by cases h; exact List.mem_of_getElem? (i := 1482) rfl
set_option maxRecDepth 100000 in
theorem eCW_108 : eCWp 108 := fun M h => by cases h; exact List.mem_of_getElem? (i := 1494) rfl
set_option maxRecDepth 100000 in
theorem eCW_109 : eCWp 109 := fun M h => by cases h; exact List.mem_of_getElem? (i := 1470) rfl
set_option maxRecDepth 100000 in
theorem eCW_110 : eCWp 110 := fun M h => by cases h; exact List.mem_of_getElem? (i := 1466) rfl
set_option maxRecDepth 100000 in
theorem eCW_111 : eCWp 111 := fun M h => by cases h; exact List.mem_of_getElem? (i := 1514) rfl
set_option maxRecDepth 100000 in
theorem eCW_112 : eCWp 112 := fun M h => by cases h; exact List.mem_of_getElem? (i := 1510) rfl
set_option maxRecDepth 100000 in
theorem eCW_113 : eCWp 113 := fun M h => by cases h; exact List.mem_of_getElem? (i := 1506) rfl
set_option maxRecDepth 100000 in
theorem eCW_114 : eCWp 114 := fun M h => by cases h; exact List.mem_of_getElem? (i := 1502) rfl
set_option maxRecDepth 100000 in
theorem eCW_115 : eCWp 115 := fun M h => by cases h; exact List.mem_of_getElem? (i := 1498) rfl
set_option maxRecDepth 100000 in
theorem eCW_116 : eCWp 116 := fun M h => by cases h; exact List.mem_of_getElem? (i := 1518) rfl
set_option maxRecDepth 100000 in
theorem eCW_117 : eCWp 117 := fun M h => by cases h; exact List.mem_of_getElem? (i := 1526) rfl
set_option maxRecDepth 100000 in
theorem eCW_118 : eCWp 118 := fun M h => by cases h; exact List.mem_of_getElem? (i := 1534) rfl
set_option maxRecDepth 100000 in
theorem eCW_119 : eCWp 119 := fun M h => by cases h; exact List.mem_of_getElem? (i := 1538) rfl
set_option maxRecDepth 100000 in
theorem eCW_120 : eCWp 120 := fun M h => by cases h; exact List.mem_of_getElem? (i := 1551) rfl
set_option maxRecDepth 100000 in
theorem eCW_121 : eCWp 121 := fun M h => by cases h; exact List.mem_of_getElem? (i := 1547) rfl
set_option maxRecDepth 100000 in
theorem eCW_122 : eCWp 122 := fun M h => by cases h; exact List.mem_of_getElem? (i := 1555) rfl
set_option maxRecDepth 100000 in
theorem eCW_123 : eCWp 123 := fun M h => by cases h; exact List.mem_of_getElem? (i := 1559) rfl
set_option maxRecDepth 100000 in
theorem eCW_124 : eCWp 124 := fun M h => by cases h; exact List.mem_of_getElem? (i := 1568) rfl
set_option maxRecDepth 100000 in
theorem eCW_125 : eCWp 125 := fun M h => by cases h; exact List.mem_of_getElem? (i := 1564) rfl
set_option maxRecDepth 100000 in
theorem eCW_126 : eCWp 126 := fun M h => by cases h; exact List.mem_of_getElem? (i := 1576) rfl
set_option maxRecDepth 100000 in
theorem eCW_127 : eCWp 127 := fun M h => by cases h; exact List.mem_of_getElem? (i := 1572) rfl
set_option maxRecDepth 100000 in
theorem eCW_128 : eCWp 128 := fun M h => by cases h; exact List.mem_of_getElem? (i := 1584) rfl
set_option maxRecDepth 100000 in
theorem eCW_129 : eCWp 129 := fun M h => by cases h; exact List.mem_of_getElem? (i := 1580) rfl
set_option maxRecDepth 100000 in
theorem eCW_130 : eCWp 130 := fun M h => by cases h; exact List.mem_of_getElem? (i := 1588) rfl
set_option maxRecDepth 100000 in
theorem eCW_131 : eCWp 131 := fun M h => by cases h; exact List.mem_of_getElem? (i := 1600) rfl
set_option maxRecDepth 100000 in
theorem eCW_132 : eCWp 132 := fun M h => by cases h; exact List.mem_of_getElem? (i := 1596) rfl
set_option maxRecDepth 100000 in
theorem eCW_133 : eCWp 133 := fun M h => by cases h; exact List.mem_of_getElem? (i := 1592) rfl
set_option maxRecDepth 100000 in
theorem eCW_134 : eCWp 134 := fun M h => by cases h; exact List.mem_of_getElem? (i := 1608) rfl
set_option maxRecDepth 100000 in
theorem eCW_135 : eCWp 135 := fun M h => by cases h; exact List.mem_of_getElem? (i := 1604) rfl
set_option maxRecDepth 100000 in
theorem eCW_136 : eCWp 136 := fun M h => by cases h; exact List.mem_of_getElem? (i := 1612) rfl
set_option maxRecDepth 100000 in
theorem eCW_137 : eCWp 137 := fun M h => by cases h; exact List.mem_of_getElem? (i := 1616) rfl
set_option maxRecDepth 100000 in
theorem eCW_138 : eCWp 138 := fun M h => by cases h; exact List.mem_of_getElem? (i := 1621) rfl
set_option maxRecDepth 100000 in
theorem eCW_139 : eCWp 139 := fun M h => by cases h; exact List.mem_of_getElem? (i := 1625) rfl
set_option maxRecDepth 100000 in
theorem eCW_140 : eCWp 140 := fun M h => by cases h; exact List.mem_of_getElem? (i := 1629) rfl
set_option maxRecDepth 100000 in
theorem eCW_141 : eCWp 141 := fun M h => by cases h; exact List.mem_of_getElem? (i := 1633) rfl
set_option maxRecDepth 100000 in
theorem eCW_142 : eCWp 142 := fun M h => by cases h; exact List.mem_of_getElem? (i := 1637) rfl
set_option maxRecDepth 100000 in
theorem eCW_143 : eCWp 143 := fun M h => by cases h; exact List.mem_of_getElem? (i := 1641) rfl
