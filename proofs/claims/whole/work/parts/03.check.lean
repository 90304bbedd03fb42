def z_fts : List (List Nat) := [[1, 1, 1, 1], [0, 1, 1, 1, 1, 1, 1, 1, 1, 1, 1, 1, 1], [0, 1, 1, 1, 1, 1, 1, 1, 1, 1], [1, 1], [1, 1, 1, 1, 1, 0], [1, 0, 0, 0, 3], [0, 0, 0, 0, 1, 1, 1, 1, 1, 1, 1, 1], [1, 0], [1, 1, 1, 0, 0, 0, 0], [0, 0, 0, 1, 1, 1, 1, 1, 1, 1, 1], [1, 0, 0, 0, 0, 0, 0, 0, 0, 0, 0], [1, 1, 1, 1, 1, 1, 1, 1, 1, 0], [1, 1, 1, 1, 1, 0, 1, 1, 0, 0, 0, 1, 1, 1, 1, 1, 1, 1, 1, 1, 0, 1, 1, 0, 1, 0, 0, 0, 0, 0, 1, 1, 1, 1, 1, 1, 1, 1, 1, 1, 1, 0, 1, 1, 1, 1, 1, 1, 0, 1, 1, 1, 1, 1, 0, 1, 0, 1, 1, 0, 1, 1, 1, 0, 1, 1, 1, 1, 1, 1, 1, 1, 1, 2, 0]]
def z_ft (c f : Nat) : Nat := z_at (z_at z_fts c []) f 0
def z_T (c : Nat) : u_T := z_at [TX0, TX1, TX2, TX3, TX4, TX5, TX6, TX7, TX8, TX9, TX10, TX11, TX12] c TX0
def z_nf (c : Nat) : Nat := z_at [4, 13, 10, 2, 6, 5, 12, 2, 7, 11, 11, 10, 75] c 0
def z_cl (c : Nat) : String := z_at [RX0, RX1, RX2, RX3, RX4, RX5, RX6, RX7, RX8, RX9, RX10, RX11, RX12] c ""
def z_ty (c : Nat) : Nat → FieldType := z_at [tyX0, tyX1, tyX2, tyX3, tyX4, tyX5, tyX6, tyX7, tyX8, tyX9, tyX10, tyX11, tyX12] c tyX0
/-- the tables words that a method may use -/
def z_tw : List Jvm.Cond := lw_tbl.filter goodWord
/-- method, kind (0 virtual, 1 static, 2 <init>), parameters, places of its words -/
def z_pp0 : List (Nat × Nat × Nat × Nat × Nat × Nat × Nat) := [(0, 2, 1, 475, 95, 474, 0), (1, 0, 3, 1075, 95, 1073, 1074), (2, 0, 2, 1060, 95, 1058, 1059), (3, 0, 0, 1065, 95, 1064, 24), (4, 0, 1, 1071, 95, 1070, 25), (5, 0, 1, 1089, 95, 1087, 1088), (6, 0, 2, 1100, 95, 1099, 26), (7, 0, 1, 1106, 95, 1105, 27)]
def z_pp1 : List (Nat × Nat × Nat × Nat × Nat × Nat × Nat) := [(100, 2, 1, 274, 90, 273, 0), (101, 0, 1, 634, 90, 632, 633), (102, 0, 1, 638, 90, 637, 9), (103, 1, 4, 670, 90, 669, 0), (104, 0, 2, 678, 90, 677, 10), (105, 0, 4, 682, 90, 681, 11), (106, 0, 3, 735, 90, 734, 12), (107, 0, 3, 739, 90, 738, 13), (108, 0, 2, 749, 90, 748, 14), (109, 0, 1, 783, 90, 781, 782), (110, 0, 2, 766, 90, 764, 765), (111, 0, 1, 901, 90, 899, 900), (112, 0, 1, 779, 90, 777, 778), (113, 0, 1, 1165, 90, 1163, 1164), (114, 0, 1, 1048, 90, 1046, 1047), (115, 0, 1, 1169, 90, 1167, 1168), (116, 0, 2, 873, 90, 871, 872), (117, 0, 2, 836, 90, 834, 835), (118, 0, 2, 812, 90, 810, 811), (119, 0, 2, 807, 90, 805, 806), (120, 0, 3, 891, 90, 889, 890), (121, 0, 2, 816, 90, 814, 815)]
def z_pp2 : List (Nat × Nat × Nat × Nat × Nat × Nat × Nat) := [(200, 2, 0, 219, 89, 218, 0), (201, 0, 1, 556, 89, 554, 555), (202, 0, 1, 616, 89, 614, 615), (203, 0, 3, 608, 89, 606, 607), (204, 0, 3, 612, 89, 610, 611), (205, 0, 3, 620, 89, 618, 619), (206, 0, 1, 666, 89, 664, 665), (207, 0, 1, 658, 89, 656, 657), (208, 0, 1, 650, 89, 648, 649), (209, 0, 1, 642, 89, 640, 641), (210, 0, 1, 646, 89, 644, 645), (211, 0, 1, 1173, 89, 1171, 1172), (212, 0, 1, 662, 89, 660, 661), (213, 0, 1, 731, 89, 729, 730), (214, 0, 1, 1052, 89, 1050, 1051)]
def z_pp3 : List (Nat × Nat × Nat × Nat × Nat × Nat × Nat) := [(300, 2, 0, 155, 87, 154, 0), (301, 0, 1, 545, 87, 543, 544), (302, 0, 0, 630, 87, 628, 629)]
def z_pp4 : List (Nat × Nat × Nat × Nat × Nat × Nat × Nat) := [(400, 2, 2, 368, 92, 367, 0), (401, 0, 2, 775, 92, 773, 774), (402, 0, 1, 1044, 92, 1042, 1043), (403, 0, 1, 1161, 92, 1159, 1160), (404, 0, 1, 787, 92, 785, 786), (405, 0, 3, 924, 92, 922, 923), (406, 0, 1, 803, 92, 801, 802), (407, 0, 2, 832, 92, 830, 831), (408, 0, 2, 848, 92, 846, 847), (409, 0, 1, 869, 92, 867, 868), (410, 0, 0, 881, 92, 879, 880), (411, 0, 1, 915, 92, 913, 914), (412, 0, 4, 920, 92, 918, 919), (413, 0, 0, 929, 92, 927, 928)]
def z_pp5 : List (Nat × Nat × Nat × Nat × Nat × Nat × Nat) := [(500, 2, 0, 116, 85, 115, 0), (501, 0, 1, 529, 85, 527, 528), (502, 0, 1, 537, 85, 535, 536), (503, 0, 1, 561, 85, 559, 560), (504, 0, 1, 568, 85, 567, 0), (505, 0, 2, 580, 85, 579, 3), (506, 0, 1, 600, 85, 599, 7), (507, 0, 0, 576, 85, 575, 2), (508, 0, 1, 572, 85, 571, 1), (509, 0, 1, 604, 85, 603, 8), (510, 0, 1, 584, 85, 583, 4), (511, 0, 2, 592, 85, 591, 6), (512, 0, 2, 588, 85, 587, 5)]
def z_pp6 : List (Nat × Nat × Nat × Nat × Nat × Nat × Nat) := [(600, 2, 0, 161, 88, 160, 0), (601, 0, 1, 549, 88, 547, 548), (602, 0, 5, 596, 88, 594, 595), (603, 0, 1, 625, 88, 623, 624), (604, 0, 1, 1141, 88, 1139, 1140), (605, 0, 1, 707, 88, 705, 706), (606, 1, 3, 1148, 88, 1147, 0), (607, 0, 1, 723, 88, 721, 722), (608, 0, 1, 864, 88, 862, 863), (609, 0, 1, 715, 88, 713, 714), (610, 0, 1, 719, 88, 717, 718), (611, 0, 2, 703, 88, 701, 702), (612, 0, 1, 699, 88, 697, 698), (613, 0, 1, 860, 88, 858, 859), (614, 0, 0, 1081, 88, 1079, 1080), (615, 0, 1, 1125, 88, 1123, 1124), (616, 0, 2, 1312, 88, 1310, 1311), (617, 1, 2, 799, 88, 798, 0)]
def z_pp7 : List (Nat × Nat × Nat × Nat × Nat × Nat × Nat) := [(700, 2, 0, 140, 86, 139, 0), (701, 0, 0, 820, 86, 818, 819), (702, 0, 1, 824, 86, 822, 823), (703, 0, 1, 1324, 86, 1322, 1323)]
def z_pp8 : List (Nat × Nat × Nat × Nat × Nat × Nat × Nat) := [(800, 2, 0, 374, 93, 373, 0), (801, 0, 4, 791, 93, 789, 790), (802, 0, 0, 934, 93, 932, 933), (803, 0, 1, 795, 93, 794, 16), (804, 0, 1, 840, 93, 838, 839), (805, 0, 1, 1096, 93, 1094, 1095)]
def z_pp9 : List (Nat × Nat × Nat × Nat × Nat × Nat × Nat) := [(900, 2, 2, 431, 94, 430, 0), (901, 0, 1, 961, 94, 959, 960), (902, 0, 1, 978, 94, 976, 977), (903, 0, 1, 982, 94, 981, 20), (904, 0, 2, 991, 94, 989, 990), (905, 0, 1, 1000, 94, 998, 999), (906, 0, 1, 1004, 94, 1003, 21), (907, 0, 3, 1008, 94, 1007, 22), (908, 0, 1, 1012, 94, 1010, 1011), (909, 0, 1, 1024, 94, 1022, 1023), (910, 0, 2, 1030, 94, 1029, 23), (911, 0, 2, 1119, 94, 1118, 28), (912, 0, 2, 1217, 94, 1215, 1216), (913, 0, 2, 1114, 94, 1112, 1113), (914, 0, 1, 1133, 94, 1131, 1132), (915, 0, 2, 1185, 94, 1183, 1184), (916, 0, 2, 1189, 94, 1188, 30), (917, 0, 2, 1207, 94, 1205, 1206), (918, 0, 0, 1193, 94, 1192, 31), (919, 0, 2, 1197, 94, 1196, 32), (920, 0, 2, 1225, 94, 1223, 1224), (921, 1, 1, 1228, 94, 1227, 0), (922, 1, 2, 1232, 94, 1231, 0)]
def z_pp10 : List (Nat × Nat × Nat × Nat × Nat × Nat × Nat) := [(1000, 2, 0, 280, 91, 279, 0), (1001, 0, 2, 654, 91, 652, 653), (1002, 0, 1, 674, 91, 672, 673), (1003, 0, 1, 691, 91, 689, 690), (1004, 0, 0, 686, 91, 684, 685), (1005, 0, 2, 695, 91, 693, 694), (1006, 0, 2, 711, 91, 709, 710), (1007, 0, 2, 727, 91, 725, 726)]
def z_pp11 : List (Nat × Nat × Nat × Nat × Nat × Nat × Nat) := [(1100, 2, 0, 108, 84, 107, 0), (1101, 0, 1, 525, 84, 523, 524), (1102, 0, 1, 533, 84, 531, 532), (1103, 0, 0, 541, 84, 539, 540), (1104, 0, 2, 753, 84, 751, 752), (1105, 0, 1, 758, 84, 756, 757), (1106, 0, 2, 762, 84, 760, 761), (1107, 0, 2, 828, 84, 826, 827), (1108, 0, 2, 844, 84, 842, 843), (1109, 0, 1, 853, 84, 851, 852), (1110, 0, 0, 877, 84, 875, 876), (1111, 0, 1, 886, 84, 884, 885), (1112, 0, 1, 897, 84, 895, 896), (1113, 0, 1, 905, 84, 903, 904), (1114, 0, 1, 948, 84, 946, 947), (1115, 0, 1, 953, 84, 951, 952), (1116, 0, 1, 957, 84, 955, 956), (1117, 0, 1, 974, 84, 972, 973), (1118, 0, 2, 987, 84, 985, 986), (1119, 0, 1, 996, 84, 994, 995), (1120, 0, 1, 1016, 84, 1014, 1015), (1121, 0, 1, 1020, 84, 1018, 1019), (1122, 0, 1, 1036, 84, 1034, 1035), (1123, 0, 1, 1040, 84, 1038, 1039), (1124, 0, 1, 1056, 84, 1054, 1055), (1125, 0, 0, 1085, 84, 1083, 1084), (1126, 0, 2, 1110, 84, 1108, 1109), (1127, 0, 1, 1129, 84, 1127, 1128), (1128, 0, 2, 1137, 84, 1135, 1136), (1129, 0, 4, 1145, 84, 1143, 1144), (1130, 0, 2, 1153, 84, 1151, 1152), (1131, 0, 1, 1157, 84, 1155, 1156), (1132, 0, 1, 1177, 84, 1175, 1176), (1133, 0, 2, 1203, 84, 1201, 1202), (1134, 0, 1, 1212, 84, 1210, 1211), (1135, 0, 1, 1221, 84, 1219, 1220), (1136, 0, 1, 1239, 84, 1237, 1238), (1137, 0, 2, 1247, 84, 1245, 1246), (1138, 0, 1, 1320, 84, 1318, 1319), (1139, 0, 0, 771, 84, 770, 15), (1140, 1, 1, 856, 84, 855, 0), (1141, 0, 1, 909, 84, 908, 17), (1142, 0, 0, 1181, 84, 1180, 29), (1143, 0, 1, 938, 84, 937, 18), (1144, 0, 2, 943, 84, 942, 19)]
def z_pp12 : List (Nat × Nat × Nat × Nat × Nat × Nat × Nat) := [(1200, 2, 0, 1329, 96, 1328, 0), (1201, 0, 0, 1563, 96, 1561, 1562), (1202, 1, 3, 1574, 96, 1573, 0), (1203, 0, 0, 1923, 96, 1922, 82), (1204, 0, 1, 1707, 96, 1706, 61), (1205, 0, 1, 1635, 96, 1634, 46), (1206, 0, 1, 1655, 96, 1654, 49), (1207, 1, 1, 1722, 96, 1721, 0), (1208, 0, 1, 1639, 96, 1638, 47), (1209, 0, 1, 1567, 96, 1565, 1566), (1210, 0, 1, 1571, 96, 1569, 1570), (1211, 0, 0, 1586, 96, 1585, 35), (1212, 0, 1, 1614, 96, 1613, 42), (1213, 0, 0, 1594, 96, 1593, 37), (1214, 0, 1, 1590, 96, 1589, 36), (1215, 0, 1, 1606, 96, 1605, 40), (1216, 0, 2, 1602, 96, 1601, 39), (1217, 0, 2, 1598, 96, 1597, 38), (1218, 0, 0, 1582, 96, 1581, 34), (1219, 0, 1, 1610, 96, 1609, 41), (1220, 0, 0, 1578, 96, 1576, 1577), (1221, 0, 1, 1619, 96, 1618, 43), (1222, 0, 0, 1623, 96, 1622, 44), (1223, 0, 5, 1627, 96, 1626, 45), (1224, 0, 2, 1671, 96, 1670, 53), (1225, 0, 3, 1679, 96, 1678, 55), (1226, 0, 1, 1675, 96, 1674, 54), (1227, 0, 3, 1667, 96, 1666, 52), (1228, 0, 3, 1663, 96, 1662, 51), (1229, 0, 0, 1659, 96, 1658, 50), (1230, 0, 0, 1683, 96, 1682, 56), (1231, 0, 1, 1699, 96, 1698, 59), (1232, 0, 4, 1703, 96, 1702, 60), (1233, 0, 0, 1726, 96, 1725, 62), (1234, 0, 2, 1631, 96, 1629, 1630), (1235, 0, 1, 1643, 96, 1641, 1642), (1236, 0, 2, 1691, 96, 1690, 57), (1237, 0, 1, 1695, 96, 1694, 58), (1238, 0, 2, 1651, 96, 1650, 48), (1239, 0, 2, 1647, 96, 1645, 1646), (1240, 0, 2, 1711, 96, 1709, 1710), (1241, 0, 2, 1715, 96, 1713, 1714), (1242, 0, 1, 1719, 96, 1717, 1718), (1243, 0, 0, 1730, 96, 1728, 1729), (1244, 0, 1, 1734, 96, 1732, 1733), (1245, 0, 1, 1738, 96, 1737, 63), (1246, 0, 1, 1742, 96, 1740, 1741), (1247, 0, 0, 1763, 96, 1762, 67), (1248, 0, 0, 1775, 96, 1774, 70), (1249, 0, 2, 1767, 96, 1766, 68), (1250, 0, 1, 1771, 96, 1770, 69), (1251, 0, 2, 1754, 96, 1753, 65), (1252, 0, 1, 1750, 96, 1749, 64), (1253, 0, 3, 1759, 96, 1758, 66), (1254, 0, 2, 1779, 96, 1778, 71), (1255, 0, 1, 1746, 96, 1744, 1745), (1256, 0, 1, 1783, 96, 1781, 1782), (1257, 0, 1, 1787, 96, 1785, 1786), (1258, 0, 1, 1791, 96, 1789, 1790), (1259, 0, 1, 1796, 96, 1794, 1795), (1260, 0, 2, 1800, 96, 1798, 1799), (1261, 0, 1, 1812, 96, 1811, 73), (1262, 0, 1, 1808, 96, 1807, 72), (1263, 0, 1, 1804, 96, 1802, 1803), (1264, 0, 1, 1816, 96, 1814, 1815), (1265, 0, 1, 1824, 96, 1823, 74), (1266, 0, 1, 1820, 96, 1818, 1819), (1267, 0, 1, 1828, 96, 1826, 1827), (1268, 0, 1, 1832, 96, 1830, 1831), (1269, 0, 1, 1840, 96, 1839, 75), (1270, 0, 1, 1836, 96, 1834, 1835), (1271, 0, 1, 1853, 96, 1852, 77), (1272, 0, 0, 1849, 96, 1848, 76), (1273, 0, 0, 1844, 96, 1842, 1843), (1274, 0, 1, 1862, 96, 1861, 78), (1275, 0, 2, 1857, 96, 1855, 1856), (1276, 0, 1, 1866, 96, 1864, 1865), (1277, 0, 2, 1870, 96, 1868, 1869), (1278, 0, 4, 1874, 96, 1872, 1873), (1279, 0, 2, 1878, 96, 1876, 1877), (1280, 0, 1, 1886, 96, 1885, 79), (1281, 0, 2, 1891, 96, 1890, 80), (1282, 0, 1, 1882, 96, 1880, 1881), (1283, 0, 1, 1895, 96, 1893, 1894), (1284, 0, 2, 1899, 96, 1897, 1898), (1285, 0, 1, 1903, 96, 1901, 1902), (1286, 0, 3, 1911, 96, 1910, 81), (1287, 0, 1, 1907, 96, 1905, 1906), (1288, 0, 1, 1915, 96, 1913, 1914), (1289, 0, 2, 1919, 96, 1917, 1918), (1290, 0, 1, 1927, 96, 1925, 1926)]
def z_pp13 : List (Nat × Nat × Nat × Nat × Nat × Nat × Nat) := [(1300, 1, 1, 742, 99, 741, 0), (1301, 1, 1, 1686, 99, 1685, 0)]
def z_pps : List (List (Nat × Nat × Nat × Nat × Nat × Nat × Nat)) := [z_pp0, z_pp1, z_pp2, z_pp3, z_pp4, z_pp5, z_pp6, z_pp7, z_pp8, z_pp9, z_pp10, z_pp11, z_pp12, z_pp13]
def z_mp (m : Nat) : Nat × Nat × Nat × Nat × Nat × Nat × Nat := z_at (z_at z_pps (m / 100) []) (m % 100) (0, 0, 0, 0, 0, 0, 0)
def z_kd (m : Nat) : Nat := (z_mp m).2.1
def z_np (m : Nat) : Nat := (z_mp m).2.2.1
def z_has (p : Nat) (w : Jvm.Cond) : Bool := decide (lw_tbl[p]? = some w) && goodWord w
def z_i32 (x : Int) : Bool := decide (-2147483648 ≤ x) && decide (x ≤ 2147483647)
def z_i64 (x : Int) : Bool := decide (-9223372036854775808 ≤ x) && decide (x ≤ 9223372036854775807)
def z_akind (t : ArrayType) : Nat := match t with
  | .int => 1
  | .boolean => 2
  | .byte => 3
  | .char => 4
  | _ => 0
def z_plain (y : MethodName) : Bool := plainName y.cls && decide (y.cls ≠ "java/lang/invoke/MethodHandle") && decide (y.cls ≠ "java/lang/invoke/VarHandle")
/-- a call's own checks: the callee's kind, how many it takes, what it gives -/
def z_chkI (kd a c d : Nat) (b : Int) : Bool := decide (z_kd a = kd) && decide (c = z_np a + (if kd = 1 then 0 else 1)) && decide ((z_mr a = none) = (d = 0)) && (decide (kd = 1) || (decide (z_cl b.toNat = (z_my a).cls) && decide (b.toNat < 13))) && decide ((z_mp a).1 = a)
def z_chk (m : Nat) (e : z_E) : Bool :=
  match e with
  | (pc, i, len, a, c, d, b, p) =>
  decide (decode (z_mb m) pc = .ok (i, len)) &&
  match i with
  | .aload _ | .iload _ | .lload _ => decide (len = 2)
  | .istore j | .astore j => decide (len = 2) && decide (j < z_ml m)
  | .lstore j => decide (len = 2) && decide (j + 1 < z_ml m)
  | .aload_n _ | .iload_n _ | .lload_n _ => decide (len = 1)
  | .istore_n j | .astore_n j => decide (len = 1) && decide ((j : Nat) < z_ml m)
  | .lstore_n j => decide (len = 1) && decide ((j : Nat) + 1 < z_ml m)
  | .iinc j _ => decide (len = 3) && decide (j < z_ml m)
  | .iconst n => decide (len = 1) && decide (b = n) && z_i32 b
  | .bipush n => decide (len = 2) && decide ((Int8.ofInt n).toInt32 = Int32.ofInt b) && z_i32 b
  | .sipush n => decide (len = 3) && decide ((Int16.ofInt n).toInt32 = Int32.ofInt b) && z_i32 b
  | .ldc x => decide (len = 2) && z_i32 b && z_has p (.constant (z_my m).cls x (Int32.ofInt b))
  | .ldc_w x => decide (len = 3) && z_i32 b && z_has p (.constant (z_my m).cls x (Int32.ofInt b))
  | .ldc2_w x => decide (len = 3) && z_i64 b && z_has p (.constantLong (z_my m).cls x (Int64.ofInt b))
  | .lconst n => decide (len = 1) && decide (Int64.ofNat (n : Nat) = Int64.ofInt b) && z_i64 b
  | .iadd | .isub | .imul | .iand | .ior | .ixor | .ishl | .ishr | .iushr | .idiv | .irem | .ineg | .ladd | .lmul | .ldiv | .lrem | .lcmp | .i2l | .l2i | .i2b | .i2c | .pop | .dup | .dup_x1 | .dup2 | .iaload | .baload | .caload | .iastore | .castore | .bastore | .arraylength => decide (len = 1)
  | .ifCond _ off | .if_icmp _ off | .ifnull off | .ifnonnull off | .goto off => decide (len = 3) && decide ((pc : Int) + off = (a : Int))
  | .tableswitch dflt lo hi offs => offs.toList.all (fun o => decide (0 ≤ (pc : Int) + o)) && decide (0 ≤ (pc : Int) + dflt) && decide (hi = lo + (offs.toList.length : Int) - 1)
  | .getfield x => decide (len = 3) && decide (a < 13) && decide (c < z_nf a) && decide (d = z_ft a c) && z_has p (.fieldLink (z_my m).cls x (z_T a c).1 (z_T a c).2.1 (z_T a c).2.2.1)
  | .putfield x => decide (len = 3) && decide (a < 13) && decide (c < z_nf a) && decide (d = z_ft a c) && z_has p (.fieldLink (z_my m).cls x (z_T a c).1 (z_T a c).2.1 (z_T a c).2.2.1) && (decide ((z_T a c).2.2.2 = false) || (decide ((z_my m).name = "<init>") && decide ((z_T a c).1 = (z_my m).cls)))
  | .newarray t => decide (len = 2) && decide (a = z_akind t) && decide (0 < a) && z_has p (.arrayClass (newarray.typeOf t))
  | .new x => decide (len = 3) && decide (a < 13) && decide (b = z_nf a) && z_has p (.classLink (z_my m).cls x (z_cl a)) && decide (Jvm.Cond.instantiable (z_cl a) (z_nf a) ∈ lw_tbl) && decide (Jvm.Cond.initialized (z_cl a) ∈ lw_tbl)
  | .ireturn => decide (len = 1) && ((decide (a = 2) && decide (z_mr m = some .boolean)) || (decide (a = 1) && decide (z_mr m = some .int)))
  | .return_ => decide (len = 1) && decide (z_mr m = none)
  | .invokestatic x => decide (len = 3) && (if a = 9999 then z_has p (.methodLink (z_my m).cls x arraycopyName) else if a = 9995 then z_has p (.methodLink (z_my m).cls x Lib.Math.max.name) else if a = 9996 then z_has p (.methodLink (z_my m).cls x Lib.Math.min.name) else if a = 9997 then z_has p (.methodLink (z_my m).cls x Lib.Math.abs.name) else decide (a < 9990) && z_has p (.methodLink (z_my m).cls x (z_my a)) && z_chkI 1 a c d b)
  | .invokespecial x => decide (len = 3) && (if a = 9998 then z_has p (.methodLink (z_my m).cls x Lib.objectInit) else z_has p (.methodLink (z_my m).cls x (z_my a)) && z_chkI 2 a c d b && decide (z_mr a = none))
  | .invokevirtual x => decide (len = 3) && z_has p (.methodLink (z_my m).cls x (z_my a)) && z_chkI 0 a c d b
  | _ => false
def z_mchk (q : Nat × Nat × Nat × Nat × Nat × Nat × Nat) : Bool :=
  match q with
  | (m, kd, np, _, p1, p2, p3) =>
  decide (z_kd m = kd) && decide (z_np m = np) && decide ((parseMethodDescriptor (z_my m).desc).map (fun d => d.parameters.length) = some np) && z_plain (z_my m) && z_has p1 (.initialized (z_my m).cls) &&
  decide (z_ml m ≤ 40) && decide (np + (if kd = 1 then 0 else 1) ≤ z_ml m) &&
  (if kd = 1 then z_has p2 (.static (z_my m)) else z_has p2 (.instanceMethod (z_my m))) && (if kd = 0 then z_has p3 (.selects (z_my m).cls (z_my m) (z_my m)) else true) && (if kd = 2 then decide ((z_my m).name = "<init>") else true)

theorem z_e0 : z_c0.all (z_chk 0) = true := by decide +kernel
theorem z_e1 : z_c1.all (z_chk 1) = true := by decide +kernel
theorem z_e2 : z_c2.all (z_chk 2) = true := by decide +kernel
theorem z_e3 : z_c3.all (z_chk 3) = true := by decide +kernel
theorem z_e4 : z_c4.all (z_chk 4) = true := by decide +kernel
theorem z_e5 : z_c5.all (z_chk 5) = true := by decide +kernel
theorem z_e6 : z_c6.all (z_chk 6) = true := by decide +kernel
theorem z_e7 : z_c7.all (z_chk 7) = true := by decide +kernel
theorem z_e100 : z_c100.all (z_chk 100) = true := by decide +kernel
theorem z_e101 : z_c101.all (z_chk 101) = true := by decide +kernel
theorem z_e102 : z_c102.all (z_chk 102) = true := by decide +kernel
theorem z_e103 : z_c103.all (z_chk 103) = true := by decide +kernel
theorem z_e104 : z_c104.all (z_chk 104) = true := by decide +kernel
theorem z_e105 : z_c105.all (z_chk 105) = true := by decide +kernel
theorem z_e106 : z_c106.all (z_chk 106) = true := by decide +kernel
theorem z_e107 : z_c107.all (z_chk 107) = true := by decide +kernel
theorem z_e108 : z_c108.all (z_chk 108) = true := by decide +kernel
theorem z_e109 : z_c109.all (z_chk 109) = true := by decide +kernel
theorem z_e110 : z_c110.all (z_chk 110) = true := by decide +kernel
theorem z_e111 : z_c111.all (z_chk 111) = true := by decide +kernel
theorem z_e112 : z_c112.all (z_chk 112) = true := by decide +kernel
theorem z_e113 : z_c113.all (z_chk 113) = true := by decide +kernel
theorem z_e114 : z_c114.all (z_chk 114) = true := by decide +kernel
theorem z_e115 : z_c115.all (z_chk 115) = true := by decide +kernel
theorem z_e116 : z_c116.all (z_chk 116) = true := by decide +kernel
theorem z_e117 : z_c117.all (z_chk 117) = true := by decide +kernel
theorem z_e118 : z_c118.all (z_chk 118) = true := by decide +kernel
theorem z_e119 : z_c119.all (z_chk 119) = true := by decide +kernel
theorem z_e120 : z_c120.all (z_chk 120) = true := by decide +kernel
theorem z_e121 : z_c121.all (z_chk 121) = true := by decide +kernel
theorem z_e200 : z_c200.all (z_chk 200) = true := by decide +kernel
theorem z_e201 : z_c201.all (z_chk 201) = true := by decide +kernel
theorem z_e202 : z_c202.all (z_chk 202) = true := by decide +kernel
theorem z_e203 : z_c203.all (z_chk 203) = true := by decide +kernel
theorem z_e204 : z_c204.all (z_chk 204) = true := by decide +kernel
theorem z_e205 : z_c205.all (z_chk 205) = true := by decide +kernel
theorem z_e206 : z_c206.all (z_chk 206) = true := by decide +kernel
theorem z_e207 : z_c207.all (z_chk 207) = true := by decide +kernel
theorem z_e208 : z_c208.all (z_chk 208) = true := by decide +kernel
theorem z_e209 : z_c209.all (z_chk 209) = true := by decide +kernel
theorem z_e210 : z_c210.all (z_chk 210) = true := by decide +kernel
theorem z_e211 : z_c211.all (z_chk 211) = true := by decide +kernel
theorem z_e212 : z_c212.all (z_chk 212) = true := by decide +kernel
theorem z_e213 : z_c213.all (z_chk 213) = true := by decide +kernel
theorem z_e214 : z_c214.all (z_chk 214) = true := by decide +kernel
theorem z_e300 : z_c300.all (z_chk 300) = true := by decide +kernel
theorem z_e301 : z_c301.all (z_chk 301) = true := by decide +kernel
theorem z_e302 : z_c302.all (z_chk 302) = true := by decide +kernel
theorem z_e400 : z_c400.all (z_chk 400) = true := by decide +kernel
theorem z_e401 : z_c401.all (z_chk 401) = true := by decide +kernel
theorem z_e402 : z_c402.all (z_chk 402) = true := by decide +kernel
theorem z_e403 : z_c403.all (z_chk 403) = true := by decide +kernel
theorem z_e404 : z_c404.all (z_chk 404) = true := by decide +kernel
theorem z_e405 : z_c405.all (z_chk 405) = true := by decide +kernel
theorem z_e406 : z_c406.all (z_chk 406) = true := by decide +kernel
theorem z_e407 : z_c407.all (z_chk 407) = true := by decide +kernel
theorem z_e408 : z_c408.all (z_chk 408) = true := by decide +kernel
theorem z_e409 : z_c409.all (z_chk 409) = true := by decide +kernel
theorem z_e410 : z_c410.all (z_chk 410) = true := by decide +kernel
theorem z_e411 : z_c411.all (z_chk 411) = true := by decide +kernel
theorem z_e412 : z_c412.all (z_chk 412) = true := by decide +kernel
theorem z_e413 : z_c413.all (z_chk 413) = true := by decide +kernel
theorem z_e500 : z_c500.all (z_chk 500) = true := by decide +kernel
theorem z_e501 : z_c501.all (z_chk 501) = true := by decide +kernel
theorem z_e502 : z_c502.all (z_chk 502) = true := by decide +kernel
theorem z_e503 : z_c503.all (z_chk 503) = true := by decide +kernel
theorem z_e504 : z_c504.all (z_chk 504) = true := by decide +kernel
theorem z_e505 : z_c505.all (z_chk 505) = true := by decide +kernel
theorem z_e506 : z_c506.all (z_chk 506) = true := by decide +kernel
theorem z_e507 : z_c507.all (z_chk 507) = true := by decide +kernel
theorem z_e508 : z_c508.all (z_chk 508) = true := by decide +kernel
theorem z_e509 : z_c509.all (z_chk 509) = true := by decide +kernel
theorem z_e510 : z_c510.all (z_chk 510) = true := by decide +kernel
theorem z_e511 : z_c511.all (z_chk 511) = true := by decide +kernel
theorem z_e512 : z_c512.all (z_chk 512) = true := by decide +kernel
theorem z_e600 : z_c600.all (z_chk 600) = true := by decide +kernel
theorem z_e601 : z_c601.all (z_chk 601) = true := by decide +kernel
theorem z_e602 : z_c602.all (z_chk 602) = true := by decide +kernel
theorem z_e603 : z_c603.all (z_chk 603) = true := by decide +kernel
theorem z_e604 : z_c604.all (z_chk 604) = true := by decide +kernel
theorem z_e605 : z_c605.all (z_chk 605) = true := by decide +kernel
theorem z_e606 : z_c606.all (z_chk 606) = true := by decide +kernel
theorem z_e607 : z_c607.all (z_chk 607) = true := by decide +kernel
theorem z_e608 : z_c608.all (z_chk 608) = true := by decide +kernel
theorem z_e609 : z_c609.all (z_chk 609) = true := by decide +kernel
theorem z_e610 : z_c610.all (z_chk 610) = true := by decide +kernel
theorem z_e611 : z_c611.all (z_chk 611) = true := by decide +kernel
theorem z_e612 : z_c612.all (z_chk 612) = true := by decide +kernel
theorem z_e613 : z_c613.all (z_chk 613) = true := by decide +kernel
theorem z_e614 : z_c614.all (z_chk 614) = true := by decide +kernel
theorem z_e615 : z_c615.all (z_chk 615) = true := by decide +kernel
theorem z_e616 : z_c616.all (z_chk 616) = true := by decide +kernel
theorem z_e617 : z_c617.all (z_chk 617) = true := by decide +kernel
theorem z_e700 : z_c700.all (z_chk 700) = true := by decide +kernel
theorem z_e701 : z_c701.all (z_chk 701) = true := by decide +kernel
theorem z_e702 : z_c702.all (z_chk 702) = true := by decide +kernel
theorem z_e703 : z_c703.all (z_chk 703) = true := by decide +kernel
theorem z_e800 : z_c800.all (z_chk 800) = true := by decide +kernel
theorem z_e801 : z_c801.all (z_chk 801) = true := by decide +kernel
theorem z_e802 : z_c802.all (z_chk 802) = true := by decide +kernel
theorem z_e803 : z_c803.all (z_chk 803) = true := by decide +kernel
theorem z_e804 : z_c804.all (z_chk 804) = true := by decide +kernel
theorem z_e805 : z_c805.all (z_chk 805) = true := by decide +kernel
theorem z_e900 : z_c900.all (z_chk 900) = true := by decide +kernel
theorem z_e901 : z_c901.all (z_chk 901) = true := by decide +kernel
theorem z_e902 : z_c902.all (z_chk 902) = true := by decide +kernel
theorem z_e903 : z_c903.all (z_chk 903) = true := by decide +kernel
theorem z_e904 : z_c904.all (z_chk 904) = true := by decide +kernel
theorem z_e905 : z_c905.all (z_chk 905) = true := by decide +kernel
theorem z_e906 : z_c906.all (z_chk 906) = true := by decide +kernel
theorem z_e907 : z_c907.all (z_chk 907) = true := by decide +kernel
theorem z_e908 : z_c908.all (z_chk 908) = true := by decide +kernel
theorem z_e909 : z_c909.all (z_chk 909) = true := by decide +kernel
theorem z_e910 : z_c910.all (z_chk 910) = true := by decide +kernel
theorem z_e911 : z_c911.all (z_chk 911) = true := by decide +kernel
theorem z_e912 : z_c912.all (z_chk 912) = true := by decide +kernel
theorem z_e913 : z_c913.all (z_chk 913) = true := by decide +kernel
theorem z_e914 : z_c914.all (z_chk 914) = true := by decide +kernel
theorem z_e915 : z_c915.all (z_chk 915) = true := by decide +kernel
theorem z_e916 : z_c916.all (z_chk 916) = true := by decide +kernel
theorem z_e917 : z_c917.all (z_chk 917) = true := by decide +kernel
theorem z_e918 : z_c918.all (z_chk 918) = true := by decide +kernel
theorem z_e919 : z_c919.all (z_chk 919) = true := by decide +kernel
theorem z_e920 : z_c920.all (z_chk 920) = true := by decide +kernel
theorem z_e921 : z_c921.all (z_chk 921) = true := by decide +kernel
theorem z_e922 : z_c922.all (z_chk 922) = true := by decide +kernel
theorem z_e1000 : z_c1000.all (z_chk 1000) = true := by decide +kernel
theorem z_e1001 : z_c1001.all (z_chk 1001) = true := by decide +kernel
theorem z_e1002 : z_c1002.all (z_chk 1002) = true := by decide +kernel
theorem z_e1003 : z_c1003.all (z_chk 1003) = true := by decide +kernel
theorem z_e1004 : z_c1004.all (z_chk 1004) = true := by decide +kernel
theorem z_e1005 : z_c1005.all (z_chk 1005) = true := by decide +kernel
theorem z_e1006 : z_c1006.all (z_chk 1006) = true := by decide +kernel
theorem z_e1007 : z_c1007.all (z_chk 1007) = true := by decide +kernel
theorem z_e1100 : z_c1100.all (z_chk 1100) = true := by decide +kernel
theorem z_e1101 : z_c1101.all (z_chk 1101) = true := by decide +kernel
theorem z_e1102 : z_c1102.all (z_chk 1102) = true := by decide +kernel
theorem z_e1103 : z_c1103.all (z_chk 1103) = true := by decide +kernel
theorem z_e1104 : z_c1104.all (z_chk 1104) = true := by decide +kernel
theorem z_e1105 : z_c1105.all (z_chk 1105) = true := by decide +kernel
theorem z_e1106 : z_c1106.all (z_chk 1106) = true := by decide +kernel
theorem z_e1107 : z_c1107.all (z_chk 1107) = true := by decide +kernel
theorem z_e1108 : z_c1108.all (z_chk 1108) = true := by decide +kernel
theorem z_e1109 : z_c1109.all (z_chk 1109) = true := by decide +kernel
theorem z_e1110 : z_c1110.all (z_chk 1110) = true := by decide +kernel
theorem z_e1111 : z_c1111.all (z_chk 1111) = true := by decide +kernel
theorem z_e1112 : z_c1112.all (z_chk 1112) = true := by decide +kernel
theorem z_e1113 : z_c1113.all (z_chk 1113) = true := by decide +kernel
theorem z_e1114 : z_c1114.all (z_chk 1114) = true := by decide +kernel
theorem z_e1115 : z_c1115.all (z_chk 1115) = true := by decide +kernel
theorem z_e1116 : z_c1116.all (z_chk 1116) = true := by decide +kernel
theorem z_e1117 : z_c1117.all (z_chk 1117) = true := by decide +kernel
theorem z_e1118 : z_c1118.all (z_chk 1118) = true := by decide +kernel
theorem z_e1119 : z_c1119.all (z_chk 1119) = true := by decide +kernel
theorem z_e1120 : z_c1120.all (z_chk 1120) = true := by decide +kernel
theorem z_e1121 : z_c1121.all (z_chk 1121) = true := by decide +kernel
theorem z_e1122 : z_c1122.all (z_chk 1122) = true := by decide +kernel
theorem z_e1123 : z_c1123.all (z_chk 1123) = true := by decide +kernel
theorem z_e1124 : z_c1124.all (z_chk 1124) = true := by decide +kernel
theorem z_e1125 : z_c1125.all (z_chk 1125) = true := by decide +kernel
theorem z_e1126 : z_c1126.all (z_chk 1126) = true := by decide +kernel
theorem z_e1127 : z_c1127.all (z_chk 1127) = true := by decide +kernel
theorem z_e1128 : z_c1128.all (z_chk 1128) = true := by decide +kernel
theorem z_e1129 : z_c1129.all (z_chk 1129) = true := by decide +kernel
theorem z_e1130 : z_c1130.all (z_chk 1130) = true := by decide +kernel
theorem z_e1131 : z_c1131.all (z_chk 1131) = true := by decide +kernel
theorem z_e1132 : z_c1132.all (z_chk 1132) = true := by decide +kernel
theorem z_e1133 : z_c1133.all (z_chk 1133) = true := by decide +kernel
theorem z_e1134 : z_c1134.all (z_chk 1134) = true := by decide +kernel
theorem z_e1135 : z_c1135.all (z_chk 1135) = true := by decide +kernel
theorem z_e1136 : z_c1136.all (z_chk 1136) = true := by decide +kernel
theorem z_e1137 : z_c1137.all (z_chk 1137) = true := by decide +kernel
theorem z_e1138 : z_c1138.all (z_chk 1138) = true := by decide +kernel
theorem z_e1139 : z_c1139.all (z_chk 1139) = true := by decide +kernel
theorem z_e1140 : z_c1140.all (z_chk 1140) = true := by decide +kernel
theorem z_e1141 : z_c1141.all (z_chk 1141) = true := by decide +kernel
theorem z_e1142 : z_c1142.all (z_chk 1142) = true := by decide +kernel
theorem z_e1143 : z_c1143.all (z_chk 1143) = true := by decide +kernel
theorem z_e1144 : z_c1144.all (z_chk 1144) = true := by decide +kernel
theorem z_e1200 : z_c1200.all (z_chk 1200) = true := by decide +kernel
theorem z_e1201 : z_c1201.all (z_chk 1201) = true := by decide +kernel
theorem z_e1202 : z_c1202.all (z_chk 1202) = true := by decide +kernel
theorem z_e1203 : z_c1203.all (z_chk 1203) = true := by decide +kernel
theorem z_e1204 : z_c1204.all (z_chk 1204) = true := by decide +kernel
theorem z_e1205 : z_c1205.all (z_chk 1205) = true := by decide +kernel
theorem z_e1206 : z_c1206.all (z_chk 1206) = true := by decide +kernel
theorem z_e1207 : z_c1207.all (z_chk 1207) = true := by decide +kernel
theorem z_e1208 : z_c1208.all (z_chk 1208) = true := by decide +kernel
theorem z_e1209 : z_c1209.all (z_chk 1209) = true := by decide +kernel
theorem z_e1210 : z_c1210.all (z_chk 1210) = true := by decide +kernel
theorem z_e1211 : z_c1211.all (z_chk 1211) = true := by decide +kernel
theorem z_e1212 : z_c1212.all (z_chk 1212) = true := by decide +kernel
theorem z_e1213 : z_c1213.all (z_chk 1213) = true := by decide +kernel
theorem z_e1214 : z_c1214.all (z_chk 1214) = true := by decide +kernel
theorem z_e1215 : z_c1215.all (z_chk 1215) = true := by decide +kernel
theorem z_e1216 : z_c1216.all (z_chk 1216) = true := by decide +kernel
theorem z_e1217 : z_c1217.all (z_chk 1217) = true := by decide +kernel
theorem z_e1218 : z_c1218.all (z_chk 1218) = true := by decide +kernel
theorem z_e1219 : z_c1219.all (z_chk 1219) = true := by decide +kernel
theorem z_e1220 : z_c1220.all (z_chk 1220) = true := by decide +kernel
theorem z_e1221 : z_c1221.all (z_chk 1221) = true := by decide +kernel
theorem z_e1222 : z_c1222.all (z_chk 1222) = true := by decide +kernel
theorem z_e1223 : z_c1223.all (z_chk 1223) = true := by decide +kernel
theorem z_e1224 : z_c1224.all (z_chk 1224) = true := by decide +kernel
theorem z_e1225 : z_c1225.all (z_chk 1225) = true := by decide +kernel
theorem z_e1226 : z_c1226.all (z_chk 1226) = true := by decide +kernel
theorem z_e1227 : z_c1227.all (z_chk 1227) = true := by decide +kernel
theorem z_e1228 : z_c1228.all (z_chk 1228) = true := by decide +kernel
theorem z_e1229 : z_c1229.all (z_chk 1229) = true := by decide +kernel
theorem z_e1230 : z_c1230.all (z_chk 1230) = true := by decide +kernel
theorem z_e1231 : z_c1231.all (z_chk 1231) = true := by decide +kernel
theorem z_e1232 : z_c1232.all (z_chk 1232) = true := by decide +kernel
theorem z_e1233 : z_c1233.all (z_chk 1233) = true := by decide +kernel
theorem z_e1234 : z_c1234.all (z_chk 1234) = true := by decide +kernel
theorem z_e1235 : z_c1235.all (z_chk 1235) = true := by decide +kernel
theorem z_e1236 : z_c1236.all (z_chk 1236) = true := by decide +kernel
theorem z_e1237 : z_c1237.all (z_chk 1237) = true := by decide +kernel
theorem z_e1238 : z_c1238.all (z_chk 1238) = true := by decide +kernel
theorem z_e1239 : z_c1239.all (z_chk 1239) = true := by decide +kernel
theorem z_e1240 : z_c1240.all (z_chk 1240) = true := by decide +kernel
theorem z_e1241 : z_c1241.all (z_chk 1241) = true := by decide +kernel
theorem z_e1242 : z_c1242.all (z_chk 1242) = true := by decide +kernel
theorem z_e1243 : z_c1243.all (z_chk 1243) = true := by decide +kernel
theorem z_e1244 : z_c1244.all (z_chk 1244) = true := by decide +kernel
theorem z_e1245 : z_c1245.all (z_chk 1245) = true := by decide +kernel
theorem z_e1246 : z_c1246.all (z_chk 1246) = true := by decide +kernel
theorem z_e1247 : z_c1247.all (z_chk 1247) = true := by decide +kernel
theorem z_e1248 : z_c1248.all (z_chk 1248) = true := by decide +kernel
theorem z_e1249 : z_c1249.all (z_chk 1249) = true := by decide +kernel
theorem z_e1250 : z_c1250.all (z_chk 1250) = true := by decide +kernel
theorem z_e1251 : z_c1251.all (z_chk 1251) = true := by decide +kernel
theorem z_e1252 : z_c1252.all (z_chk 1252) = true := by decide +kernel
theorem z_e1253 : z_c1253.all (z_chk 1253) = true := by decide +kernel
theorem z_e1254 : z_c1254.all (z_chk 1254) = true := by decide +kernel
theorem z_e1255 : z_c1255.all (z_chk 1255) = true := by decide +kernel
theorem z_e1256 : z_c1256.all (z_chk 1256) = true := by decide +kernel
theorem z_e1257 : z_c1257.all (z_chk 1257) = true := by decide +kernel
theorem z_e1258 : z_c1258.all (z_chk 1258) = true := by decide +kernel
theorem z_e1259 : z_c1259.all (z_chk 1259) = true := by decide +kernel
theorem z_e1260 : z_c1260.all (z_chk 1260) = true := by decide +kernel
theorem z_e1261 : z_c1261.all (z_chk 1261) = true := by decide +kernel
theorem z_e1262 : z_c1262.all (z_chk 1262) = true := by decide +kernel
theorem z_e1263 : z_c1263.all (z_chk 1263) = true := by decide +kernel
theorem z_e1264 : z_c1264.all (z_chk 1264) = true := by decide +kernel
theorem z_e1265 : z_c1265.all (z_chk 1265) = true := by decide +kernel
theorem z_e1266 : z_c1266.all (z_chk 1266) = true := by decide +kernel
theorem z_e1267 : z_c1267.all (z_chk 1267) = true := by decide +kernel
theorem z_e1268 : z_c1268.all (z_chk 1268) = true := by decide +kernel
theorem z_e1269 : z_c1269.all (z_chk 1269) = true := by decide +kernel
theorem z_e1270 : z_c1270.all (z_chk 1270) = true := by decide +kernel
theorem z_e1271 : z_c1271.all (z_chk 1271) = true := by decide +kernel
theorem z_e1272 : z_c1272.all (z_chk 1272) = true := by decide +kernel
theorem z_e1273 : z_c1273.all (z_chk 1273) = true := by decide +kernel
theorem z_e1274 : z_c1274.all (z_chk 1274) = true := by decide +kernel
theorem z_e1275 : z_c1275.all (z_chk 1275) = true := by decide +kernel
theorem z_e1276 : z_c1276.all (z_chk 1276) = true := by decide +kernel
theorem z_e1277 : z_c1277.all (z_chk 1277) = true := by decide +kernel
theorem z_e1278 : z_c1278.all (z_chk 1278) = true := by decide +kernel
theorem z_e1279 : z_c1279.all (z_chk 1279) = true := by decide +kernel
theorem z_e1280 : z_c1280.all (z_chk 1280) = true := by decide +kernel
theorem z_e1281 : z_c1281.all (z_chk 1281) = true := by decide +kernel
theorem z_e1282 : z_c1282.all (z_chk 1282) = true := by decide +kernel
theorem z_e1283 : z_c1283.all (z_chk 1283) = true := by decide +kernel
theorem z_e1284 : z_c1284.all (z_chk 1284) = true := by decide +kernel
theorem z_e1285 : z_c1285.all (z_chk 1285) = true := by decide +kernel
theorem z_e1286 : z_c1286.all (z_chk 1286) = true := by decide +kernel
theorem z_e1287 : z_c1287.all (z_chk 1287) = true := by decide +kernel
theorem z_e1288 : z_c1288.all (z_chk 1288) = true := by decide +kernel
theorem z_e1289 : z_c1289.all (z_chk 1289) = true := by decide +kernel
theorem z_e1290 : z_c1290.all (z_chk 1290) = true := by decide +kernel
theorem z_e1300 : z_c1300.all (z_chk 1300) = true := by decide +kernel
theorem z_e1301 : z_c1301.all (z_chk 1301) = true := by decide +kernel
theorem z_m0 : z_pp0.all z_mchk = true := by decide +kernel
theorem z_m1 : z_pp1.all z_mchk = true := by decide +kernel
theorem z_m2 : z_pp2.all z_mchk = true := by decide +kernel
theorem z_m3 : z_pp3.all z_mchk = true := by decide +kernel
theorem z_m4 : z_pp4.all z_mchk = true := by decide +kernel
theorem z_m5 : z_pp5.all z_mchk = true := by decide +kernel
theorem z_m6 : z_pp6.all z_mchk = true := by decide +kernel
theorem z_m7 : z_pp7.all z_mchk = true := by decide +kernel
theorem z_m8 : z_pp8.all z_mchk = true := by decide +kernel
theorem z_m9 : z_pp9.all z_mchk = true := by decide +kernel
theorem z_m10 : z_pp10.all z_mchk = true := by decide +kernel
theorem z_m11 : z_pp11.all z_mchk = true := by decide +kernel
theorem z_m12 : z_pp12.all z_mchk = true := by decide +kernel
theorem z_m13 : z_pp13.all z_mchk = true := by decide +kernel
set_option maxRecDepth 100000 in
theorem z_w0 : lw_tbl[475]? = some (.code (z_my 0) (z_mb 0) (z_ml 0) (z_mr 0)) := by rfl
set_option maxRecDepth 100000 in
theorem z_w1 : lw_tbl[1075]? = some (.code (z_my 1) (z_mb 1) (z_ml 1) (z_mr 1)) := by rfl
set_option maxRecDepth 100000 in
theorem z_w2 : lw_tbl[1060]? = some (.code (z_my 2) (z_mb 2) (z_ml 2) (z_mr 2)) := by rfl
set_option maxRecDepth 100000 in
theorem z_w3 : lw_tbl[1065]? = some (.code (z_my 3) (z_mb 3) (z_ml 3) (z_mr 3)) := by rfl
set_option maxRecDepth 100000 in
theorem z_w4 : lw_tbl[1071]? = some (.code (z_my 4) (z_mb 4) (z_ml 4) (z_mr 4)) := by rfl
set_option maxRecDepth 100000 in
theorem z_w5 : lw_tbl[1089]? = some (.code (z_my 5) (z_mb 5) (z_ml 5) (z_mr 5)) := by rfl
set_option maxRecDepth 100000 in
theorem z_w6 : lw_tbl[1100]? = some (.code (z_my 6) (z_mb 6) (z_ml 6) (z_mr 6)) := by rfl
set_option maxRecDepth 100000 in
theorem z_w7 : lw_tbl[1106]? = some (.code (z_my 7) (z_mb 7) (z_ml 7) (z_mr 7)) := by rfl
set_option maxRecDepth 100000 in
theorem z_w100 : lw_tbl[274]? = some (.code (z_my 100) (z_mb 100) (z_ml 100) (z_mr 100)) := by rfl
set_option maxRecDepth 100000 in
theorem z_w101 : lw_tbl[634]? = some (.code (z_my 101) (z_mb 101) (z_ml 101) (z_mr 101)) := by rfl
set_option maxRecDepth 100000 in
theorem z_w102 : lw_tbl[638]? = some (.code (z_my 102) (z_mb 102) (z_ml 102) (z_mr 102)) := by rfl
set_option maxRecDepth 100000 in
theorem z_w103 : lw_tbl[670]? = some (.code (z_my 103) (z_mb 103) (z_ml 103) (z_mr 103)) := by rfl
set_option maxRecDepth 100000 in
theorem z_w104 : lw_tbl[678]? = some (.code (z_my 104) (z_mb 104) (z_ml 104) (z_mr 104)) := by rfl
set_option maxRecDepth 100000 in
theorem z_w105 : lw_tbl[682]? = some (.code (z_my 105) (z_mb 105) (z_ml 105) (z_mr 105)) := by rfl
set_option maxRecDepth 100000 in
theorem z_w106 : lw_tbl[735]? = some (.code (z_my 106) (z_mb 106) (z_ml 106) (z_mr 106)) := by rfl
set_option maxRecDepth 100000 in
theorem z_w107 : lw_tbl[739]? = some (.code (z_my 107) (z_mb 107) (z_ml 107) (z_mr 107)) := by rfl
set_option maxRecDepth 100000 in
theorem z_w108 : lw_tbl[749]? = some (.code (z_my 108) (z_mb 108) (z_ml 108) (z_mr 108)) := by rfl
set_option maxRecDepth 100000 in
theorem z_w109 : lw_tbl[783]? = some (.code (z_my 109) (z_mb 109) (z_ml 109) (z_mr 109)) := by rfl
set_option maxRecDepth 100000 in
theorem z_w110 : lw_tbl[766]? = some (.code (z_my 110) (z_mb 110) (z_ml 110) (z_mr 110)) := by rfl
set_option maxRecDepth 100000 in
theorem z_w111 : lw_tbl[901]? = some (.code (z_my 111) (z_mb 111) (z_ml 111) (z_mr 111)) := by rfl
set_option maxRecDepth 100000 in
theorem z_w112 : lw_tbl[779]? = some (.code (z_my 112) (z_mb 112) (z_ml 112) (z_mr 112)) := by rfl
set_option maxRecDepth 100000 in
theorem z_w113 : lw_tbl[1165]? = some (.code (z_my 113) (z_mb 113) (z_ml 113) (z_mr 113)) := by rfl
set_option maxRecDepth 100000 in
theorem z_w114 : lw_tbl[1048]? = some (.code (z_my 114) (z_mb 114) (z_ml 114) (z_mr 114)) := by rfl
set_option maxRecDepth 100000 in
theorem z_w115 : lw_tbl[1169]? = some (.code (z_my 115) (z_mb 115) (z_ml 115) (z_mr 115)) := by rfl
set_option maxRecDepth 100000 in
theorem z_w116 : lw_tbl[873]? = some (.code (z_my 116) (z_mb 116) (z_ml 116) (z_mr 116)) := by rfl
set_option maxRecDepth 100000 in
theorem z_w117 : lw_tbl[836]? = some (.code (z_my 117) (z_mb 117) (z_ml 117) (z_mr 117)) := by rfl
set_option maxRecDepth 100000 in
theorem z_w118 : lw_tbl[812]? = some (.code (z_my 118) (z_mb 118) (z_ml 118) (z_mr 118)) := by rfl
set_option maxRecDepth 100000 in
theorem z_w119 : lw_tbl[807]? = some (.code (z_my 119) (z_mb 119) (z_ml 119) (z_mr 119)) := by rfl
set_option maxRecDepth 100000 in
theorem z_w120 : lw_tbl[891]? = some (.code (z_my 120) (z_mb 120) (z_ml 120) (z_mr 120)) := by rfl
set_option maxRecDepth 100000 in
theorem z_w121 : lw_tbl[816]? = some (.code (z_my 121) (z_mb 121) (z_ml 121) (z_mr 121)) := by rfl
set_option maxRecDepth 100000 in
theorem z_w200 : lw_tbl[219]? = some (.code (z_my 200) (z_mb 200) (z_ml 200) (z_mr 200)) := by rfl
set_option maxRecDepth 100000 in
theorem z_w201 : lw_tbl[556]? = some (.code (z_my 201) (z_mb 201) (z_ml 201) (z_mr 201)) := by rfl
set_option maxRecDepth 100000 in
theorem z_w202 : lw_tbl[616]? = some (.code (z_my 202) (z_mb 202) (z_ml 202) (z_mr 202)) := by rfl
set_option maxRecDepth 100000 in
theorem z_w203 : lw_tbl[608]? = some (.code (z_my 203) (z_mb 203) (z_ml 203) (z_mr 203)) := by rfl
set_option maxRecDepth 100000 in
theorem z_w204 : lw_tbl[612]? = some (.code (z_my 204) (z_mb 204) (z_ml 204) (z_mr 204)) := by rfl
set_option maxRecDepth 100000 in
theorem z_w205 : lw_tbl[620]? = some (.code (z_my 205) (z_mb 205) (z_ml 205) (z_mr 205)) := by rfl
set_option maxRecDepth 100000 in
theorem z_w206 : lw_tbl[666]? = some (.code (z_my 206) (z_mb 206) (z_ml 206) (z_mr 206)) := by rfl
set_option maxRecDepth 100000 in
theorem z_w207 : lw_tbl[658]? = some (.code (z_my 207) (z_mb 207) (z_ml 207) (z_mr 207)) := by rfl
set_option maxRecDepth 100000 in
theorem z_w208 : lw_tbl[650]? = some (.code (z_my 208) (z_mb 208) (z_ml 208) (z_mr 208)) := by rfl
set_option maxRecDepth 100000 in
theorem z_w209 : lw_tbl[642]? = some (.code (z_my 209) (z_mb 209) (z_ml 209) (z_mr 209)) := by rfl
set_option maxRecDepth 100000 in
theorem z_w210 : lw_tbl[646]? = some (.code (z_my 210) (z_mb 210) (z_ml 210) (z_mr 210)) := by rfl
set_option maxRecDepth 100000 in
theorem z_w211 : lw_tbl[1173]? = some (.code (z_my 211) (z_mb 211) (z_ml 211) (z_mr 211)) := by rfl
set_option maxRecDepth 100000 in
theorem z_w212 : lw_tbl[662]? = some (.code (z_my 212) (z_mb 212) (z_ml 212) (z_mr 212)) := by rfl
set_option maxRecDepth 100000 in
theorem z_w213 : lw_tbl[731]? = some (.code (z_my 213) (z_mb 213) (z_ml 213) (z_mr 213)) := by rfl
set_option maxRecDepth 100000 in
theorem z_w214 : lw_tbl[1052]? = some (.code (z_my 214) (z_mb 214) (z_ml 214) (z_mr 214)) := by rfl
set_option maxRecDepth 100000 in
theorem z_w300 : lw_tbl[155]? = some (.code (z_my 300) (z_mb 300) (z_ml 300) (z_mr 300)) := by rfl
set_option maxRecDepth 100000 in
theorem z_w301 : lw_tbl[545]? = some (.code (z_my 301) (z_mb 301) (z_ml 301) (z_mr 301)) := by rfl
set_option maxRecDepth 100000 in
theorem z_w302 : lw_tbl[630]? = some (.code (z_my 302) (z_mb 302) (z_ml 302) (z_mr 302)) := by rfl
set_option maxRecDepth 100000 in
theorem z_w400 : lw_tbl[368]? = some (.code (z_my 400) (z_mb 400) (z_ml 400) (z_mr 400)) := by rfl
set_option maxRecDepth 100000 in
theorem z_w401 : lw_tbl[775]? = some (.code (z_my 401) (z_mb 401) (z_ml 401) (z_mr 401)) := by rfl
set_option maxRecDepth 100000 in
theorem z_w402 : lw_tbl[1044]? = some (.code (z_my 402) (z_mb 402) (z_ml 402) (z_mr 402)) := by rfl
set_option maxRecDepth 100000 in
theorem z_w403 : lw_tbl[1161]? = some (.code (z_my 403) (z_mb 403) (z_ml 403) (z_mr 403)) := by rfl
set_option maxRecDepth 100000 in
theorem z_w404 : lw_tbl[787]? = some (.code (z_my 404) (z_mb 404) (z_ml 404) (z_mr 404)) := by rfl
set_option maxRecDepth 100000 in
theorem z_w405 : lw_tbl[924]? = some (.code (z_my 405) (z_mb 405) (z_ml 405) (z_mr 405)) := by rfl
set_option maxRecDepth 100000 in
theorem z_w406 : lw_tbl[803]? = some (.code (z_my 406) (z_mb 406) (z_ml 406) (z_mr 406)) := by rfl
set_option maxRecDepth 100000 in
theorem z_w407 : lw_tbl[832]? = some (.code (z_my 407) (z_mb 407) (z_ml 407) (z_mr 407)) := by rfl
set_option maxRecDepth 100000 in
theorem z_w408 : lw_tbl[848]? = some (.code (z_my 408) (z_mb 408) (z_ml 408) (z_mr 408)) := by rfl
set_option maxRecDepth 100000 in
theorem z_w409 : lw_tbl[869]? = some (.code (z_my 409) (z_mb 409) (z_ml 409) (z_mr 409)) := by rfl
set_option maxRecDepth 100000 in
theorem z_w410 : lw_tbl[881]? = some (.code (z_my 410) (z_mb 410) (z_ml 410) (z_mr 410)) := by rfl
set_option maxRecDepth 100000 in
theorem z_w411 : lw_tbl[915]? = some (.code (z_my 411) (z_mb 411) (z_ml 411) (z_mr 411)) := by rfl
set_option maxRecDepth 100000 in
theorem z_w412 : lw_tbl[920]? = some (.code (z_my 412) (z_mb 412) (z_ml 412) (z_mr 412)) := by rfl
set_option maxRecDepth 100000 in
theorem z_w413 : lw_tbl[929]? = some (.code (z_my 413) (z_mb 413) (z_ml 413) (z_mr 413)) := by rfl
set_option maxRecDepth 100000 in
theorem z_w500 : lw_tbl[116]? = some (.code (z_my 500) (z_mb 500) (z_ml 500) (z_mr 500)) := by rfl
set_option maxRecDepth 100000 in
theorem z_w501 : lw_tbl[529]? = some (.code (z_my 501) (z_mb 501) (z_ml 501) (z_mr 501)) := by rfl
set_option maxRecDepth 100000 in
theorem z_w502 : lw_tbl[537]? = some (.code (z_my 502) (z_mb 502) (z_ml 502) (z_mr 502)) := by rfl
set_option maxRecDepth 100000 in
theorem z_w503 : lw_tbl[561]? = some (.code (z_my 503) (z_mb 503) (z_ml 503) (z_mr 503)) := by rfl
set_option maxRecDepth 100000 in
theorem z_w504 : lw_tbl[568]? = some (.code (z_my 504) (z_mb 504) (z_ml 504) (z_mr 504)) := by rfl
set_option maxRecDepth 100000 in
theorem z_w505 : lw_tbl[580]? = some (.code (z_my 505) (z_mb 505) (z_ml 505) (z_mr 505)) := by rfl
set_option maxRecDepth 100000 in
theorem z_w506 : lw_tbl[600]? = some (.code (z_my 506) (z_mb 506) (z_ml 506) (z_mr 506)) := by rfl
set_option maxRecDepth 100000 in
theorem z_w507 : lw_tbl[576]? = some (.code (z_my 507) (z_mb 507) (z_ml 507) (z_mr 507)) := by rfl
set_option maxRecDepth 100000 in
theorem z_w508 : lw_tbl[572]? = some (.code (z_my 508) (z_mb 508) (z_ml 508) (z_mr 508)) := by rfl
set_option maxRecDepth 100000 in
theorem z_w509 : lw_tbl[604]? = some (.code (z_my 509) (z_mb 509) (z_ml 509) (z_mr 509)) := by rfl
set_option maxRecDepth 100000 in
theorem z_w510 : lw_tbl[584]? = some (.code (z_my 510) (z_mb 510) (z_ml 510) (z_mr 510)) := by rfl
set_option maxRecDepth 100000 in
theorem z_w511 : lw_tbl[592]? = some (.code (z_my 511) (z_mb 511) (z_ml 511) (z_mr 511)) := by rfl
set_option maxRecDepth 100000 in
theorem z_w512 : lw_tbl[588]? = some (.code (z_my 512) (z_mb 512) (z_ml 512) (z_mr 512)) := by rfl
set_option maxRecDepth 100000 in
theorem z_w600 : lw_tbl[161]? = some (.code (z_my 600) (z_mb 600) (z_ml 600) (z_mr 600)) := by rfl
set_option maxRecDepth 100000 in
theorem z_w601 : lw_tbl[549]? = some (.code (z_my 601) (z_mb 601) (z_ml 601) (z_mr 601)) := by rfl
set_option maxRecDepth 100000 in
theorem z_w602 : lw_tbl[596]? = some (.code (z_my 602) (z_mb 602) (z_ml 602) (z_mr 602)) := by rfl
set_option maxRecDepth 100000 in
theorem z_w603 : lw_tbl[625]? = some (.code (z_my 603) (z_mb 603) (z_ml 603) (z_mr 603)) := by rfl
set_option maxRecDepth 100000 in
theorem z_w604 : lw_tbl[1141]? = some (.code (z_my 604) (z_mb 604) (z_ml 604) (z_mr 604)) := by rfl
set_option maxRecDepth 100000 in
theorem z_w605 : lw_tbl[707]? = some (.code (z_my 605) (z_mb 605) (z_ml 605) (z_mr 605)) := by rfl
set_option maxRecDepth 100000 in
theorem z_w606 : lw_tbl[1148]? = some (.code (z_my 606) (z_mb 606) (z_ml 606) (z_mr 606)) := by rfl
set_option maxRecDepth 100000 in
theorem z_w607 : lw_tbl[723]? = some (.code (z_my 607) (z_mb 607) (z_ml 607) (z_mr 607)) := by rfl
set_option maxRecDepth 100000 in
theorem z_w608 : lw_tbl[864]? = some (.code (z_my 608) (z_mb 608) (z_ml 608) (z_mr 608)) := by rfl
set_option maxRecDepth 100000 in
theorem z_w609 : lw_tbl[715]? = some (.code (z_my 609) (z_mb 609) (z_ml 609) (z_mr 609)) := by rfl
set_option maxRecDepth 100000 in
theorem z_w610 : lw_tbl[719]? = some (.code (z_my 610) (z_mb 610) (z_ml 610) (z_mr 610)) := by rfl
set_option maxRecDepth 100000 in
theorem z_w611 : lw_tbl[703]? = some (.code (z_my 611) (z_mb 611) (z_ml 611) (z_mr 611)) := by rfl
set_option maxRecDepth 100000 in
theorem z_w612 : lw_tbl[699]? = some (.code (z_my 612) (z_mb 612) (z_ml 612) (z_mr 612)) := by rfl
set_option maxRecDepth 100000 in
theorem z_w613 : lw_tbl[860]? = some (.code (z_my 613) (z_mb 613) (z_ml 613) (z_mr 613)) := by rfl
set_option maxRecDepth 100000 in
theorem z_w614 : lw_tbl[1081]? = some (.code (z_my 614) (z_mb 614) (z_ml 614) (z_mr 614)) := by rfl
set_option maxRecDepth 100000 in
theorem z_w615 : lw_tbl[1125]? = some (.code (z_my 615) (z_mb 615) (z_ml 615) (z_mr 615)) := by rfl
set_option maxRecDepth 100000 in
theorem z_w616 : lw_tbl[1312]? = some (.code (z_my 616) (z_mb 616) (z_ml 616) (z_mr 616)) := by rfl
set_option maxRecDepth 100000 in
theorem z_w617 : lw_tbl[799]? = some (.code (z_my 617) (z_mb 617) (z_ml 617) (z_mr 617)) := by rfl
set_option maxRecDepth 100000 in
theorem z_w700 : lw_tbl[140]? = some (.code (z_my 700) (z_mb 700) (z_ml 700) (z_mr 700)) := by rfl
set_option maxRecDepth 100000 in
theorem z_w701 : lw_tbl[820]? = some (.code (z_my 701) (z_mb 701) (z_ml 701) (z_mr 701)) := by rfl
set_option maxRecDepth 100000 in
theorem z_w702 : lw_tbl[824]? = some (.code (z_my 702) (z_mb 702) (z_ml 702) (z_mr 702)) := by rfl
set_option maxRecDepth 100000 in
theorem z_w703 : lw_tbl[1324]? = some (.code (z_my 703) (z_mb 703) (z_ml 703) (z_mr 703)) := by rfl
set_option maxRecDepth 100000 in
theorem z_w800 : lw_tbl[374]? = some (.code (z_my 800) (z_mb 800) (z_ml 800) (z_mr 800)) := by rfl
set_option maxRecDepth 100000 in
theorem z_w801 : lw_tbl[791]? = some (.code (z_my 801) (z_mb 801) (z_ml 801) (z_mr 801)) := by rfl
set_option maxRecDepth 100000 in
theorem z_w802 : lw_tbl[934]? = some (.code (z_my 802) (z_mb 802) (z_ml 802) (z_mr 802)) := by rfl
set_option maxRecDepth 100000 in
theorem z_w803 : lw_tbl[795]? = some (.code (z_my 803) (z_mb 803) (z_ml 803) (z_mr 803)) := by rfl
set_option maxRecDepth 100000 in
theorem z_w804 : lw_tbl[840]? = some (.code (z_my 804) (z_mb 804) (z_ml 804) (z_mr 804)) := by rfl
set_option maxRecDepth 100000 in
theorem z_w805 : lw_tbl[1096]? = some (.code (z_my 805) (z_mb 805) (z_ml 805) (z_mr 805)) := by rfl
set_option maxRecDepth 100000 in
theorem z_w900 : lw_tbl[431]? = some (.code (z_my 900) (z_mb 900) (z_ml 900) (z_mr 900)) := by rfl
set_option maxRecDepth 100000 in
theorem z_w901 : lw_tbl[961]? = some (.code (z_my 901) (z_mb 901) (z_ml 901) (z_mr 901)) := by rfl
set_option maxRecDepth 100000 in
theorem z_w902 : lw_tbl[978]? = some (.code (z_my 902) (z_mb 902) (z_ml 902) (z_mr 902)) := by rfl
set_option maxRecDepth 100000 in
theorem z_w903 : lw_tbl[982]? = some (.code (z_my 903) (z_mb 903) (z_ml 903) (z_mr 903)) := by rfl
set_option maxRecDepth 100000 in
theorem z_w904 : lw_tbl[991]? = some (.code (z_my 904) (z_mb 904) (z_ml 904) (z_mr 904)) := by rfl
set_option maxRecDepth 100000 in
theorem z_w905 : lw_tbl[1000]? = some (.code (z_my 905) (z_mb 905) (z_ml 905) (z_mr 905)) := by rfl
set_option maxRecDepth 100000 in
theorem z_w906 : lw_tbl[1004]? = some (.code (z_my 906) (z_mb 906) (z_ml 906) (z_mr 906)) := by rfl
set_option maxRecDepth 100000 in
theorem z_w907 : lw_tbl[1008]? = some (.code (z_my 907) (z_mb 907) (z_ml 907) (z_mr 907)) := by rfl
set_option maxRecDepth 100000 in
theorem z_w908 : lw_tbl[1012]? = some (.code (z_my 908) (z_mb 908) (z_ml 908) (z_mr 908)) := by rfl
set_option maxRecDepth 100000 in
theorem z_w909 : lw_tbl[1024]? = some (.code (z_my 909) (z_mb 909) (z_ml 909) (z_mr 909)) := by rfl
set_option maxRecDepth 100000 in
theorem z_w910 : lw_tbl[1030]? = some (.code (z_my 910) (z_mb 910) (z_ml 910) (z_mr 910)) := by rfl
set_option maxRecDepth 100000 in
theorem z_w911 : lw_tbl[1119]? = some (.code (z_my 911) (z_mb 911) (z_ml 911) (z_mr 911)) := by rfl
set_option maxRecDepth 100000 in
theorem z_w912 : lw_tbl[1217]? = some (.code (z_my 912) (z_mb 912) (z_ml 912) (z_mr 912)) := by rfl
set_option maxRecDepth 100000 in
theorem z_w913 : lw_tbl[1114]? = some (.code (z_my 913) (z_mb 913) (z_ml 913) (z_mr 913)) := by rfl
set_option maxRecDepth 100000 in
theorem z_w914 : lw_tbl[1133]? = some (.code (z_my 914) (z_mb 914) (z_ml 914) (z_mr 914)) := by rfl
set_option maxRecDepth 100000 in
theorem z_w915 : lw_tbl[1185]? = some (.code (z_my 915) (z_mb 915) (z_ml 915) (z_mr 915)) := by rfl
set_option maxRecDepth 100000 in
theorem z_w916 : lw_tbl[1189]? = some (.code (z_my 916) (z_mb 916) (z_ml 916) (z_mr 916)) := by rfl
set_option maxRecDepth 100000 in
theorem z_w917 : lw_tbl[1207]? = some (.code (z_my 917) (z_mb 917) (z_ml 917) (z_mr 917)) := by rfl
set_option maxRecDepth 100000 in
theorem z_w918 : lw_tbl[1193]? = some (.code (z_my 918) (z_mb 918) (z_ml 918) (z_mr 918)) := by rfl
set_option maxRecDepth 100000 in
theorem z_w919 : lw_tbl[1197]? = some (.code (z_my 919) (z_mb 919) (z_ml 919) (z_mr 919)) := by rfl
set_option maxRecDepth 100000 in
theorem z_w920 : lw_tbl[1225]? = some (.code (z_my 920) (z_mb 920) (z_ml 920) (z_mr 920)) := by rfl
set_option maxRecDepth 100000 in
theorem z_w921 : lw_tbl[1228]? = some (.code (z_my 921) (z_mb 921) (z_ml 921) (z_mr 921)) := by rfl
set_option maxRecDepth 100000 in
theorem z_w922 : lw_tbl[1232]? = some (.code (z_my 922) (z_mb 922) (z_ml 922) (z_mr 922)) := by rfl
set_option maxRecDepth 100000 in
theorem z_w1000 : lw_tbl[280]? = some (.code (z_my 1000) (z_mb 1000) (z_ml 1000) (z_mr 1000)) := by rfl
set_option maxRecDepth 100000 in
theorem z_w1001 : lw_tbl[654]? = some (.code (z_my 1001) (z_mb 1001) (z_ml 1001) (z_mr 1001)) := by rfl
set_option maxRecDepth 100000 in
theorem z_w1002 : lw_tbl[674]? = some (.code (z_my 1002) (z_mb 1002) (z_ml 1002) (z_mr 1002)) := by rfl
set_option maxRecDepth 100000 in
theorem z_w1003 : lw_tbl[691]? = some (.code (z_my 1003) (z_mb 1003) (z_ml 1003) (z_mr 1003)) := by rfl
set_option maxRecDepth 100000 in
theorem z_w1004 : lw_tbl[686]? = some (.code (z_my 1004) (z_mb 1004) (z_ml 1004) (z_mr 1004)) := by rfl
set_option maxRecDepth 100000 in
theorem z_w1005 : lw_tbl[695]? = some (.code (z_my 1005) (z_mb 1005) (z_ml 1005) (z_mr 1005)) := by rfl
set_option maxRecDepth 100000 in
theorem z_w1006 : lw_tbl[711]? = some (.code (z_my 1006) (z_mb 1006) (z_ml 1006) (z_mr 1006)) := by rfl
set_option maxRecDepth 100000 in
theorem z_w1007 : lw_tbl[727]? = some (.code (z_my 1007) (z_mb 1007) (z_ml 1007) (z_mr 1007)) := by rfl
set_option maxRecDepth 100000 in
theorem z_w1100 : lw_tbl[108]? = some (.code (z_my 1100) (z_mb 1100) (z_ml 1100) (z_mr 1100)) := by rfl
set_option maxRecDepth 100000 in
theorem z_w1101 : lw_tbl[525]? = some (.code (z_my 1101) (z_mb 1101) (z_ml 1101) (z_mr 1101)) := by rfl
set_option maxRecDepth 100000 in
theorem z_w1102 : lw_tbl[533]? = some (.code (z_my 1102) (z_mb 1102) (z_ml 1102) (z_mr 1102)) := by rfl
set_option maxRecDepth 100000 in
theorem z_w1103 : lw_tbl[541]? = some (.code (z_my 1103) (z_mb 1103) (z_ml 1103) (z_mr 1103)) := by rfl
set_option maxRecDepth 100000 in
theorem z_w1104 : lw_tbl[753]? = some (.code (z_my 1104) (z_mb 1104) (z_ml 1104) (z_mr 1104)) := by rfl
set_option maxRecDepth 100000 in
theorem z_w1105 : lw_tbl[758]? = some (.code (z_my 1105) (z_mb 1105) (z_ml 1105) (z_mr 1105)) := by rfl
set_option maxRecDepth 100000 in
theorem z_w1106 : lw_tbl[762]? = some (.code (z_my 1106) (z_mb 1106) (z_ml 1106) (z_mr 1106)) := by rfl
set_option maxRecDepth 100000 in
theorem z_w1107 : lw_tbl[828]? = some (.code (z_my 1107) (z_mb 1107) (z_ml 1107) (z_mr 1107)) := by rfl
set_option maxRecDepth 100000 in
theorem z_w1108 : lw_tbl[844]? = some (.code (z_my 1108) (z_mb 1108) (z_ml 1108) (z_mr 1108)) := by rfl
set_option maxRecDepth 100000 in
theorem z_w1109 : lw_tbl[853]? = some (.code (z_my 1109) (z_mb 1109) (z_ml 1109) (z_mr 1109)) := by rfl
set_option maxRecDepth 100000 in
theorem z_w1110 : lw_tbl[877]? = some (.code (z_my 1110) (z_mb 1110) (z_ml 1110) (z_mr 1110)) := by rfl
set_option maxRecDepth 100000 in
theorem z_w1111 : lw_tbl[886]? = some (.code (z_my 1111) (z_mb 1111) (z_ml 1111) (z_mr 1111)) := by rfl
set_option maxRecDepth 100000 in
theorem z_w1112 : lw_tbl[897]? = some (.code (z_my 1112) (z_mb 1112) (z_ml 1112) (z_mr 1112)) := by rfl
set_option maxRecDepth 100000 in
theorem z_w1113 : lw_tbl[905]? = some (.code (z_my 1113) (z_mb 1113) (z_ml 1113) (z_mr 1113)) := by rfl
set_option maxRecDepth 100000 in
theorem z_w1114 : lw_tbl[948]? = some (.code (z_my 1114) (z_mb 1114) (z_ml 1114) (z_mr 1114)) := by rfl
set_option maxRecDepth 100000 in
theorem z_w1115 : lw_tbl[953]? = some (.code (z_my 1115) (z_mb 1115) (z_ml 1115) (z_mr 1115)) := by rfl
set_option maxRecDepth 100000 in
theorem z_w1116 : lw_tbl[957]? = some (.code (z_my 1116) (z_mb 1116) (z_ml 1116) (z_mr 1116)) := by rfl
set_option maxRecDepth 100000 in
theorem z_w1117 : lw_tbl[974]? = some (.code (z_my 1117) (z_mb 1117) (z_ml 1117) (z_mr 1117)) := by rfl
set_option maxRecDepth 100000 in
theorem z_w1118 : lw_tbl[987]? = some (.code (z_my 1118) (z_mb 1118) (z_ml 1118) (z_mr 1118)) := by rfl
set_option maxRecDepth 100000 in
theorem z_w1119 : lw_tbl[996]? = some (.code (z_my 1119) (z_mb 1119) (z_ml 1119) (z_mr 1119)) := by rfl
set_option maxRecDepth 100000 in
theorem z_w1120 : lw_tbl[1016]? = some (.code (z_my 1120) (z_mb 1120) (z_ml 1120) (z_mr 1120)) := by rfl
set_option maxRecDepth 100000 in
theorem z_w1121 : lw_tbl[1020]? = some (.code (z_my 1121) (z_mb 1121) (z_ml 1121) (z_mr 1121)) := by rfl
set_option maxRecDepth 100000 in
theorem z_w1122 : lw_tbl[1036]? = some (.code (z_my 1122) (z_mb 1122) (z_ml 1122) (z_mr 1122)) := by rfl
set_option maxRecDepth 100000 in
theorem z_w1123 : lw_tbl[1040]? = some (.code (z_my 1123) (z_mb 1123) (z_ml 1123) (z_mr 1123)) := by rfl
set_option maxRecDepth 100000 in
theorem z_w1124 : lw_tbl[1056]? = some (.code (z_my 1124) (z_mb 1124) (z_ml 1124) (z_mr 1124)) := by rfl
set_option maxRecDepth 100000 in
theorem z_w1125 : lw_tbl[1085]? = some (.code (z_my 1125) (z_mb 1125) (z_ml 1125) (z_mr 1125)) := by rfl
set_option maxRecDepth 100000 in
theorem z_w1126 : lw_tbl[1110]? = some (.code (z_my 1126) (z_mb 1126) (z_ml 1126) (z_mr 1126)) := by rfl
set_option maxRecDepth 100000 in
theorem z_w1127 : lw_tbl[1129]? = some (.code (z_my 1127) (z_mb 1127) (z_ml 1127) (z_mr 1127)) := by rfl
set_option maxRecDepth 100000 in
theorem z_w1128 : lw_tbl[1137]? = some (.code (z_my 1128) (z_mb 1128) (z_ml 1128) (z_mr 1128)) := by rfl
set_option maxRecDepth 100000 in
theorem z_w1129 : lw_tbl[1145]? = some (.code (z_my 1129) (z_mb 1129) (z_ml 1129) (z_mr 1129)) := by rfl
set_option maxRecDepth 100000 in
theorem z_w1130 : lw_tbl[1153]? = some (.code (z_my 1130) (z_mb 1130) (z_ml 1130) (z_mr 1130)) := by rfl
set_option maxRecDepth 100000 in
theorem z_w1131 : lw_tbl[1157]? = some (.code (z_my 1131) (z_mb 1131) (z_ml 1131) (z_mr 1131)) := by rfl
set_option maxRecDepth 100000 in
theorem z_w1132 : lw_tbl[1177]? = some (.code (z_my 1132) (z_mb 1132) (z_ml 1132) (z_mr 1132)) := by rfl
set_option maxRecDepth 100000 in
theorem z_w1133 : lw_tbl[1203]? = some (.code (z_my 1133) (z_mb 1133) (z_ml 1133) (z_mr 1133)) := by rfl
set_option maxRecDepth 100000 in
theorem z_w1134 : lw_tbl[1212]? = some (.code (z_my 1134) (z_mb 1134) (z_ml 1134) (z_mr 1134)) := by rfl
set_option maxRecDepth 100000 in
theorem z_w1135 : lw_tbl[1221]? = some (.code (z_my 1135) (z_mb 1135) (z_ml 1135) (z_mr 1135)) := by rfl
set_option maxRecDepth 100000 in
theorem z_w1136 : lw_tbl[1239]? = some (.code (z_my 1136) (z_mb 1136) (z_ml 1136) (z_mr 1136)) := by rfl
set_option maxRecDepth 100000 in
theorem z_w1137 : lw_tbl[1247]? = some (.code (z_my 1137) (z_mb 1137) (z_ml 1137) (z_mr 1137)) := by rfl
set_option maxRecDepth 100000 in
theorem z_w1138 : lw_tbl[1320]? = some (.code (z_my 1138) (z_mb 1138) (z_ml 1138) (z_mr 1138)) := by rfl
set_option maxRecDepth 100000 in
theorem z_w1139 : lw_tbl[771]? = some (.code (z_my 1139) (z_mb 1139) (z_ml 1139) (z_mr 1139)) := by rfl
set_option maxRecDepth 100000 in
theorem z_w1140 : lw_tbl[856]? = some (.code (z_my 1140) (z_mb 1140) (z_ml 1140) (z_mr 1140)) := by rfl
set_option maxRecDepth 100000 in
theorem z_w1141 : lw_tbl[909]? = some (.code (z_my 1141) (z_mb 1141) (z_ml 1141) (z_mr 1141)) := by rfl
set_option maxRecDepth 100000 in
theorem z_w1142 : lw_tbl[1181]? = some (.code (z_my 1142) (z_mb 1142) (z_ml 1142) (z_mr 1142)) := by rfl
set_option maxRecDepth 100000 in
theorem z_w1143 : lw_tbl[938]? = some (.code (z_my 1143) (z_mb 1143) (z_ml 1143) (z_mr 1143)) := by rfl
set_option maxRecDepth 100000 in
theorem z_w1144 : lw_tbl[943]? = some (.code (z_my 1144) (z_mb 1144) (z_ml 1144) (z_mr 1144)) := by rfl
set_option maxRecDepth 100000 in
theorem z_w1200 : lw_tbl[1329]? = some (.code (z_my 1200) (z_mb 1200) (z_ml 1200) (z_mr 1200)) := by rfl
set_option maxRecDepth 100000 in
theorem z_w1201 : lw_tbl[1563]? = some (.code (z_my 1201) (z_mb 1201) (z_ml 1201) (z_mr 1201)) := by rfl
set_option maxRecDepth 100000 in
theorem z_w1202 : lw_tbl[1574]? = some (.code (z_my 1202) (z_mb 1202) (z_ml 1202) (z_mr 1202)) := by rfl
set_option maxRecDepth 100000 in
theorem z_w1203 : lw_tbl[1923]? = some (.code (z_my 1203) (z_mb 1203) (z_ml 1203) (z_mr 1203)) := by rfl
set_option maxRecDepth 100000 in
theorem z_w1204 : lw_tbl[1707]? = some (.code (z_my 1204) (z_mb 1204) (z_ml 1204) (z_mr 1204)) := by rfl
set_option maxRecDepth 100000 in
theorem z_w1205 : lw_tbl[1635]? = some (.code (z_my 1205) (z_mb 1205) (z_ml 1205) (z_mr 1205)) := by rfl
set_option maxRecDepth 100000 in
theorem z_w1206 : lw_tbl[1655]? = some (.code (z_my 1206) (z_mb 1206) (z_ml 1206) (z_mr 1206)) := by rfl
set_option maxRecDepth 100000 in
theorem z_w1207 : lw_tbl[1722]? = some (.code (z_my 1207) (z_mb 1207) (z_ml 1207) (z_mr 1207)) := by rfl
set_option maxRecDepth 100000 in
theorem z_w1208 : lw_tbl[1639]? = some (.code (z_my 1208) (z_mb 1208) (z_ml 1208) (z_mr 1208)) := by rfl
set_option maxRecDepth 100000 in
theorem z_w1209 : lw_tbl[1567]? = some (.code (z_my 1209) (z_mb 1209) (z_ml 1209) (z_mr 1209)) := by rfl
set_option maxRecDepth 100000 in
theorem z_w1210 : lw_tbl[1571]? = some (.code (z_my 1210) (z_mb 1210) (z_ml 1210) (z_mr 1210)) := by rfl
set_option maxRecDepth 100000 in
theorem z_w1211 : lw_tbl[1586]? = some (.code (z_my 1211) (z_mb 1211) (z_ml 1211) (z_mr 1211)) := by rfl
set_option maxRecDepth 100000 in
theorem z_w1212 : lw_tbl[1614]? = some (.code (z_my 1212) (z_mb 1212) (z_ml 1212) (z_mr 1212)) := by rfl
set_option maxRecDepth 100000 in
theorem z_w1213 : lw_tbl[1594]? = some (.code (z_my 1213) (z_mb 1213) (z_ml 1213) (z_mr 1213)) := by rfl
set_option maxRecDepth 100000 in
theorem z_w1214 : lw_tbl[1590]? = some (.code (z_my 1214) (z_mb 1214) (z_ml 1214) (z_mr 1214)) := by rfl
set_option maxRecDepth 100000 in
theorem z_w1215 : lw_tbl[1606]? = some (.code (z_my 1215) (z_mb 1215) (z_ml 1215) (z_mr 1215)) := by rfl
set_option maxRecDepth 100000 in
theorem z_w1216 : lw_tbl[1602]? = some (.code (z_my 1216) (z_mb 1216) (z_ml 1216) (z_mr 1216)) := by rfl
set_option maxRecDepth 100000 in
theorem z_w1217 : lw_tbl[1598]? = some (.code (z_my 1217) (z_mb 1217) (z_ml 1217) (z_mr 1217)) := by rfl
set_option maxRecDepth 100000 in
theorem z_w1218 : lw_tbl[1582]? = some (.code (z_my 1218) (z_mb 1218) (z_ml 1218) (z_mr 1218)) := by rfl
set_option maxRecDepth 100000 in
theorem z_w1219 : lw_tbl[1610]? = some (.code (z_my 1219) (z_mb 1219) (z_ml 1219) (z_mr 1219)) := by rfl
set_option maxRecDepth 100000 in
theorem z_w1220 : lw_tbl[1578]? = some (.code (z_my 1220) (z_mb 1220) (z_ml 1220) (z_mr 1220)) := by rfl
set_option maxRecDepth 100000 in
theorem z_w1221 : lw_tbl[1619]? = some (.code (z_my 1221) (z_mb 1221) (z_ml 1221) (z_mr 1221)) := by rfl
set_option maxRecDepth 100000 in
theorem z_w1222 : lw_tbl[1623]? = some (.code (z_my 1222) (z_mb 1222) (z_ml 1222) (z_mr 1222)) := by rfl
set_option maxRecDepth 100000 in
theorem z_w1223 : lw_tbl[1627]? = some (.code (z_my 1223) (z_mb 1223) (z_ml 1223) (z_mr 1223)) := by rfl
set_option maxRecDepth 100000 in
theorem z_w1224 : lw_tbl[1671]? = some (.code (z_my 1224) (z_mb 1224) (z_ml 1224) (z_mr 1224)) := by rfl
set_option maxRecDepth 100000 in
theorem z_w1225 : lw_tbl[1679]? = some (.code (z_my 1225) (z_mb 1225) (z_ml 1225) (z_mr 1225)) := by rfl
set_option maxRecDepth 100000 in
theorem z_w1226 : lw_tbl[1675]? = some (.code (z_my 1226) (z_mb 1226) (z_ml 1226) (z_mr 1226)) := by rfl
set_option maxRecDepth 100000 in
theorem z_w1227 : lw_tbl[1667]? = some (.code (z_my 1227) (z_mb 1227) (z_ml 1227) (z_mr 1227)) := by rfl
set_option maxRecDepth 100000 in
theorem z_w1228 : lw_tbl[1663]? = some (.code (z_my 1228) (z_mb 1228) (z_ml 1228) (z_mr 1228)) := by rfl
set_option maxRecDepth 100000 in
theorem z_w1229 : lw_tbl[1659]? = some (.code (z_my 1229) (z_mb 1229) (z_ml 1229) (z_mr 1229)) := by rfl
set_option maxRecDepth 100000 in
theorem z_w1230 : lw_tbl[1683]? = some (.code (z_my 1230) (z_mb 1230) (z_ml 1230) (z_mr 1230)) := by rfl
set_option maxRecDepth 100000 in
theorem z_w1231 : lw_tbl[1699]? = some (.code (z_my 1231) (z_mb 1231) (z_ml 1231) (z_mr 1231)) := by rfl
set_option maxRecDepth 100000 in
theorem z_w1232 : lw_tbl[1703]? = some (.code (z_my 1232) (z_mb 1232) (z_ml 1232) (z_mr 1232)) := by rfl
set_option maxRecDepth 100000 in
theorem z_w1233 : lw_tbl[1726]? = some (.code (z_my 1233) (z_mb 1233) (z_ml 1233) (z_mr 1233)) := by rfl
set_option maxRecDepth 100000 in
theorem z_w1234 : lw_tbl[1631]? = some (.code (z_my 1234) (z_mb 1234) (z_ml 1234) (z_mr 1234)) := by rfl
set_option maxRecDepth 100000 in
theorem z_w1235 : lw_tbl[1643]? = some (.code (z_my 1235) (z_mb 1235) (z_ml 1235) (z_mr 1235)) := by rfl
set_option maxRecDepth 100000 in
theorem z_w1236 : lw_tbl[1691]? = some (.code (z_my 1236) (z_mb 1236) (z_ml 1236) (z_mr 1236)) := by rfl
set_option maxRecDepth 100000 in
theorem z_w1237 : lw_tbl[1695]? = some (.code (z_my 1237) (z_mb 1237) (z_ml 1237) (z_mr 1237)) := by rfl
set_option maxRecDepth 100000 in
theorem z_w1238 : lw_tbl[1651]? = some (.code (z_my 1238) (z_mb 1238) (z_ml 1238) (z_mr 1238)) := by rfl
set_option maxRecDepth 100000 in
theorem z_w1239 : lw_tbl[1647]? = some (.code (z_my 1239) (z_mb 1239) (z_ml 1239) (z_mr 1239)) := by rfl
set_option maxRecDepth 100000 in
theorem z_w1240 : lw_tbl[1711]? = some (.code (z_my 1240) (z_mb 1240) (z_ml 1240) (z_mr 1240)) := by rfl
set_option maxRecDepth 100000 in
theorem z_w1241 : lw_tbl[1715]? = some (.code (z_my 1241) (z_mb 1241) (z_ml 1241) (z_mr 1241)) := by rfl
set_option maxRecDepth 100000 in
theorem z_w1242 : lw_tbl[1719]? = some (.code (z_my 1242) (z_mb 1242) (z_ml 1242) (z_mr 1242)) := by rfl
set_option maxRecDepth 100000 in
theorem z_w1243 : lw_tbl[1730]? = some (.code (z_my 1243) (z_mb 1243) (z_ml 1243) (z_mr 1243)) := by rfl
set_option maxRecDepth 100000 in
theorem z_w1244 : lw_tbl[1734]? = some (.code (z_my 1244) (z_mb 1244) (z_ml 1244) (z_mr 1244)) := by rfl
set_option maxRecDepth 100000 in
theorem z_w1245 : lw_tbl[1738]? = some (.code (z_my 1245) (z_mb 1245) (z_ml 1245) (z_mr 1245)) := by rfl
set_option maxRecDepth 100000 in
theorem z_w1246 : lw_tbl[1742]? = some (.code (z_my 1246) (z_mb 1246) (z_ml 1246) (z_mr 1246)) := by rfl
set_option maxRecDepth 100000 in
theorem z_w1247 : lw_tbl[1763]? = some (.code (z_my 1247) (z_mb 1247) (z_ml 1247) (z_mr 1247)) := by rfl
set_option maxRecDepth 100000 in
theorem z_w1248 : lw_tbl[1775]? = some (.code (z_my 1248) (z_mb 1248) (z_ml 1248) (z_mr 1248)) := by rfl
set_option maxRecDepth 100000 in
theorem z_w1249 : lw_tbl[1767]? = some (.code (z_my 1249) (z_mb 1249) (z_ml 1249) (z_mr 1249)) := by rfl
set_option maxRecDepth 100000 in
theorem z_w1250 : lw_tbl[1771]? = some (.code (z_my 1250) (z_mb 1250) (z_ml 1250) (z_mr 1250)) := by rfl
set_option maxRecDepth 100000 in
theorem z_w1251 : lw_tbl[1754]? = some (.code (z_my 1251) (z_mb 1251) (z_ml 1251) (z_mr 1251)) := by rfl
set_option maxRecDepth 100000 in
theorem z_w1252 : lw_tbl[1750]? = some (.code (z_my 1252) (z_mb 1252) (z_ml 1252) (z_mr 1252)) := by rfl
set_option maxRecDepth 100000 in
theorem z_w1253 : lw_tbl[1759]? = some (.code (z_my 1253) (z_mb 1253) (z_ml 1253) (z_mr 1253)) := by rfl
set_option maxRecDepth 100000 in
theorem z_w1254 : lw_tbl[1779]? = some (.code (z_my 1254) (z_mb 1254) (z_ml 1254) (z_mr 1254)) := by rfl
set_option maxRecDepth 100000 in
theorem z_w1255 : lw_tbl[1746]? = some (.code (z_my 1255) (z_mb 1255) (z_ml 1255) (z_mr 1255)) := by rfl
set_option maxRecDepth 100000 in
theorem z_w1256 : lw_tbl[1783]? = some (.code (z_my 1256) (z_mb 1256) (z_ml 1256) (z_mr 1256)) := by rfl
set_option maxRecDepth 100000 in
theorem z_w1257 : lw_tbl[1787]? = some (.code (z_my 1257) (z_mb 1257) (z_ml 1257) (z_mr 1257)) := by rfl
set_option maxRecDepth 100000 in
theorem z_w1258 : lw_tbl[1791]? = some (.code (z_my 1258) (z_mb 1258) (z_ml 1258) (z_mr 1258)) := by rfl
set_option maxRecDepth 100000 in
theorem z_w1259 : lw_tbl[1796]? = some (.code (z_my 1259) (z_mb 1259) (z_ml 1259) (z_mr 1259)) := by rfl
set_option maxRecDepth 100000 in
theorem z_w1260 : lw_tbl[1800]? = some (.code (z_my 1260) (z_mb 1260) (z_ml 1260) (z_mr 1260)) := by rfl
set_option maxRecDepth 100000 in
theorem z_w1261 : lw_tbl[1812]? = some (.code (z_my 1261) (z_mb 1261) (z_ml 1261) (z_mr 1261)) := by rfl
set_option maxRecDepth 100000 in
theorem z_w1262 : lw_tbl[1808]? = some (.code (z_my 1262) (z_mb 1262) (z_ml 1262) (z_mr 1262)) := by rfl
set_option maxRecDepth 100000 in
theorem z_w1263 : lw_tbl[1804]? = some (.code (z_my 1263) (z_mb 1263) (z_ml 1263) (z_mr 1263)) := by rfl
set_option maxRecDepth 100000 in
theorem z_w1264 : lw_tbl[1816]? = some (.code (z_my 1264) (z_mb 1264) (z_ml 1264) (z_mr 1264)) := by rfl
set_option maxRecDepth 100000 in
theorem z_w1265 : lw_tbl[1824]? = some (.code (z_my 1265) (z_mb 1265) (z_ml 1265) (z_mr 1265)) := by rfl
set_option maxRecDepth 100000 in
theorem z_w1266 : lw_tbl[1820]? = some (.code (z_my 1266) (z_mb 1266) (z_ml 1266) (z_mr 1266)) := by rfl
set_option maxRecDepth 100000 in
theorem z_w1267 : lw_tbl[1828]? = some (.code (z_my 1267) (z_mb 1267) (z_ml 1267) (z_mr 1267)) := by rfl
set_option maxRecDepth 100000 in
theorem z_w1268 : lw_tbl[1832]? = some (.code (z_my 1268) (z_mb 1268) (z_ml 1268) (z_mr 1268)) := by rfl
set_option maxRecDepth 100000 in
theorem z_w1269 : lw_tbl[1840]? = some (.code (z_my 1269) (z_mb 1269) (z_ml 1269) (z_mr 1269)) := by rfl
set_option maxRecDepth 100000 in
theorem z_w1270 : lw_tbl[1836]? = some (.code (z_my 1270) (z_mb 1270) (z_ml 1270) (z_mr 1270)) := by rfl
set_option maxRecDepth 100000 in
theorem z_w1271 : lw_tbl[1853]? = some (.code (z_my 1271) (z_mb 1271) (z_ml 1271) (z_mr 1271)) := by rfl
set_option maxRecDepth 100000 in
theorem z_w1272 : lw_tbl[1849]? = some (.code (z_my 1272) (z_mb 1272) (z_ml 1272) (z_mr 1272)) := by rfl
set_option maxRecDepth 100000 in
theorem z_w1273 : lw_tbl[1844]? = some (.code (z_my 1273) (z_mb 1273) (z_ml 1273) (z_mr 1273)) := by rfl
set_option maxRecDepth 100000 in
theorem z_w1274 : lw_tbl[1862]? = some (.code (z_my 1274) (z_mb 1274) (z_ml 1274) (z_mr 1274)) := by rfl
set_option maxRecDepth 100000 in
theorem z_w1275 : lw_tbl[1857]? = some (.code (z_my 1275) (z_mb 1275) (z_ml 1275) (z_mr 1275)) := by rfl
set_option maxRecDepth 100000 in
theorem z_w1276 : lw_tbl[1866]? = some (.code (z_my 1276) (z_mb 1276) (z_ml 1276) (z_mr 1276)) := by rfl
set_option maxRecDepth 100000 in
theorem z_w1277 : lw_tbl[1870]? = some (.code (z_my 1277) (z_mb 1277) (z_ml 1277) (z_mr 1277)) := by rfl
set_option maxRecDepth 100000 in
theorem z_w1278 : lw_tbl[1874]? = some (.code (z_my 1278) (z_mb 1278) (z_ml 1278) (z_mr 1278)) := by rfl
set_option maxRecDepth 100000 in
theorem z_w1279 : lw_tbl[1878]? = some (.code (z_my 1279) (z_mb 1279) (z_ml 1279) (z_mr 1279)) := by rfl
set_option maxRecDepth 100000 in
theorem z_w1280 : lw_tbl[1886]? = some (.code (z_my 1280) (z_mb 1280) (z_ml 1280) (z_mr 1280)) := by rfl
set_option maxRecDepth 100000 in
theorem z_w1281 : lw_tbl[1891]? = some (.code (z_my 1281) (z_mb 1281) (z_ml 1281) (z_mr 1281)) := by rfl
set_option maxRecDepth 100000 in
theorem z_w1282 : lw_tbl[1882]? = some (.code (z_my 1282) (z_mb 1282) (z_ml 1282) (z_mr 1282)) := by rfl
set_option maxRecDepth 100000 in
theorem z_w1283 : lw_tbl[1895]? = some (.code (z_my 1283) (z_mb 1283) (z_ml 1283) (z_mr 1283)) := by rfl
set_option maxRecDepth 100000 in
theorem z_w1284 : lw_tbl[1899]? = some (.code (z_my 1284) (z_mb 1284) (z_ml 1284) (z_mr 1284)) := by rfl
set_option maxRecDepth 100000 in
theorem z_w1285 : lw_tbl[1903]? = some (.code (z_my 1285) (z_mb 1285) (z_ml 1285) (z_mr 1285)) := by rfl
set_option maxRecDepth 100000 in
theorem z_w1286 : lw_tbl[1911]? = some (.code (z_my 1286) (z_mb 1286) (z_ml 1286) (z_mr 1286)) := by rfl
set_option maxRecDepth 100000 in
theorem z_w1287 : lw_tbl[1907]? = some (.code (z_my 1287) (z_mb 1287) (z_ml 1287) (z_mr 1287)) := by rfl
set_option maxRecDepth 100000 in
theorem z_w1288 : lw_tbl[1915]? = some (.code (z_my 1288) (z_mb 1288) (z_ml 1288) (z_mr 1288)) := by rfl
set_option maxRecDepth 100000 in
theorem z_w1289 : lw_tbl[1919]? = some (.code (z_my 1289) (z_mb 1289) (z_ml 1289) (z_mr 1289)) := by rfl
set_option maxRecDepth 100000 in
theorem z_w1290 : lw_tbl[1927]? = some (.code (z_my 1290) (z_mb 1290) (z_ml 1290) (z_mr 1290)) := by rfl
set_option maxRecDepth 100000 in
theorem z_w1300 : lw_tbl[742]? = some (.code (z_my 1300) (z_mb 1300) (z_ml 1300) (z_mr 1300)) := by rfl
set_option maxRecDepth 100000 in
theorem z_w1301 : lw_tbl[1686]? = some (.code (z_my 1301) (z_mb 1301) (z_ml 1301) (z_mr 1301)) := by rfl
theorem z_ms_max : lw_tbl[967]? = some (.static Lib.Math.max.name) := by decide +kernel
set_option maxRecDepth 100000 in
theorem z_mc_max : lw_tbl[968]? = some (.code Lib.Math.max.name Lib.Math.max.code 2 (some .int)) := by rfl
theorem z_ms_min : lw_tbl[563]? = some (.static Lib.Math.min.name) := by decide +kernel
set_option maxRecDepth 100000 in
theorem z_mc_min : lw_tbl[564]? = some (.code Lib.Math.min.name Lib.Math.min.code 2 (some .int)) := by rfl
theorem z_ms_abs : lw_tbl[1234]? = some (.static Lib.Math.abs.name) := by decide +kernel
set_option maxRecDepth 100000 in
theorem z_mc_abs : lw_tbl[1235]? = some (.code Lib.Math.abs.name Lib.Math.abs.code 1 (some .int)) := by rfl
