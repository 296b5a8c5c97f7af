def am_mp (m : Nat) : List Nat := (bif Nat.ble 136 m then (bif Nat.ble 204 m then (bif Nat.ble 238 m then (bif Nat.ble 255 m then (bif Nat.ble 264 m then (bif Nat.ble 268 m then (bif Nat.ble 270 m then (bif Nat.ble 271 m then (bif Nat.ble 272 m then [0, 0, 0, 112] else [532, 531, 0, 124]) else [1834, 1832, 1833, 123]) else (bif Nat.ble 269 m then [1823, 1821, 1822, 123] else [1819, 1817, 1818, 123])) else (bif Nat.ble 266 m then (bif Nat.ble 267 m then [1815, 1813, 1814, 123] else [1807, 1805, 1806, 123]) else (bif Nat.ble 265 m then [1811, 1810, 110, 123] else [1795, 1793, 1794, 123]))) else (bif Nat.ble 259 m then (bif Nat.ble 261 m then (bif Nat.ble 262 m then (bif Nat.ble 263 m then [1803, 1802, 109, 123] else [1799, 1798, 108, 123]) else [1786, 1784, 1785, 123]) else (bif Nat.ble 260 m then [1790, 1789, 107, 123] else [1766, 1764, 1765, 123])) else (bif Nat.ble 257 m then (bif Nat.ble 258 m then [1782, 1781, 106, 123] else [1770, 1769, 103, 123]) else (bif Nat.ble 256 m then [1774, 1773, 104, 123] else [1778, 1777, 105, 123])))) else (bif Nat.ble 246 m then (bif Nat.ble 250 m then (bif Nat.ble 252 m then (bif Nat.ble 253 m then (bif Nat.ble 254 m then [1750, 1748, 1749, 123] else [1754, 1753, 100, 123]) else [1762, 1761, 102, 123]) else (bif Nat.ble 251 m then [1758, 1757, 101, 123] else [1726, 1724, 1725, 123])) else (bif Nat.ble 248 m then (bif Nat.ble 249 m then [1734, 1733, 96, 123] else [1738, 1737, 97, 123]) else (bif Nat.ble 247 m then [1742, 1741, 98, 123] else [1746, 1745, 99, 123]))) else (bif Nat.ble 242 m then (bif Nat.ble 244 m then (bif Nat.ble 245 m then [1730, 1729, 95, 123] else [1718, 1716, 1717, 123]) else (bif Nat.ble 243 m then [1722, 1721, 94, 123] else [1709, 1707, 1708, 123])) else (bif Nat.ble 240 m then (bif Nat.ble 241 m then [1714, 1713, 93, 123] else [1689, 1687, 1688, 123]) else (bif Nat.ble 239 m then [1693, 1692, 89, 123] else [1705, 1704, 92, 123]))))) else (bif Nat.ble 221 m then (bif Nat.ble 229 m then (bif Nat.ble 233 m then (bif Nat.ble 235 m then (bif Nat.ble 236 m then (bif Nat.ble 237 m then [1697, 1696, 90, 123] else [1701, 1700, 91, 123]) else [1673, 1671, 1672, 123]) else (bif Nat.ble 234 m then [1677, 1676, 86, 123] else [1685, 1684, 88, 123])) else (bif Nat.ble 231 m then (bif Nat.ble 232 m then [1681, 1680, 87, 123] else [1656, 1654, 1655, 123]) else (bif Nat.ble 230 m then [1661, 1660, 83, 123] else [1665, 1664, 84, 123]))) else (bif Nat.ble 225 m then (bif Nat.ble 227 m then (bif Nat.ble 228 m then [1669, 1668, 85, 123] else [1646, 1644, 1645, 123]) else (bif Nat.ble 226 m then [1649, 1648, 0, 123] else [1652, 1651, 0, 123])) else (bif Nat.ble 223 m then (bif Nat.ble 224 m then [1634, 1632, 1633, 123] else [1642, 1641, 82, 123]) else (bif Nat.ble 222 m then [1638, 1637, 81, 123] else [1626, 1624, 1625, 123])))) else (bif Nat.ble 212 m then (bif Nat.ble 216 m then (bif Nat.ble 218 m then (bif Nat.ble 219 m then (bif Nat.ble 220 m then [1630, 1629, 80, 123] else [1622, 1620, 1621, 123]) else [1611, 1609, 1610, 123]) else (bif Nat.ble 217 m then [1615, 1614, 79, 123] else [1618, 1617, 0, 123])) else (bif Nat.ble 214 m then (bif Nat.ble 215 m then [1564, 1562, 1563, 123] else [1572, 1571, 70, 123]) else (bif Nat.ble 213 m then [1576, 1575, 71, 123] else [1588, 1587, 74, 123]))) else (bif Nat.ble 208 m then (bif Nat.ble 210 m then (bif Nat.ble 211 m then [1607, 1606, 78, 123] else [1592, 1591, 75, 123]) else (bif Nat.ble 209 m then [1603, 1602, 0, 123] else [1580, 1579, 72, 123])) else (bif Nat.ble 206 m then (bif Nat.ble 207 m then [1600, 1599, 77, 123] else [1596, 1595, 76, 123]) else (bif Nat.ble 205 m then [1537, 1535, 1536, 123] else [1560, 1559, 68, 123])))))) else (bif Nat.ble 170 m then (bif Nat.ble 187 m then (bif Nat.ble 195 m then (bif Nat.ble 199 m then (bif Nat.ble 201 m then (bif Nat.ble 202 m then (bif Nat.ble 203 m then [1556, 1555, 67, 123] else [1545, 1544, 65, 123]) else [1549, 1548, 66, 123]) else (bif Nat.ble 200 m then [1533, 1531, 1532, 123] else [1525, 1523, 1524, 123])) else (bif Nat.ble 197 m then (bif Nat.ble 198 m then [1517, 1515, 1516, 123] else [1584, 1583, 73, 123]) else (bif Nat.ble 196 m then [1541, 1540, 64, 123] else [1568, 1567, 69, 123]))) else (bif Nat.ble 191 m then (bif Nat.ble 193 m then (bif Nat.ble 194 m then [1529, 1528, 63, 123] else [1521, 1520, 62, 123]) else (bif Nat.ble 192 m then [1513, 1511, 1512, 123] else [1376, 1374, 1375, 123])) else (bif Nat.ble 189 m then (bif Nat.ble 190 m then [1505, 1504, 60, 123] else [1509, 1508, 61, 123]) else (bif Nat.ble 188 m then [1384, 1383, 36, 123] else [1388, 1387, 37, 123])))) else (bif Nat.ble 178 m then (bif Nat.ble 182 m then (bif Nat.ble 184 m then (bif Nat.ble 185 m then (bif Nat.ble 186 m then [1400, 1399, 40, 123] else [1404, 1403, 41, 123]) else [1500, 1499, 59, 123]) else (bif Nat.ble 183 m then [1495, 1494, 58, 123] else [1488, 1487, 57, 123])) else (bif Nat.ble 180 m then (bif Nat.ble 181 m then [1408, 1407, 42, 123] else [1438, 1437, 47, 123]) else (bif Nat.ble 179 m then [1442, 1441, 48, 123] else [1477, 1476, 56, 123]))) else (bif Nat.ble 174 m then (bif Nat.ble 176 m then (bif Nat.ble 177 m then [1480, 1479, 0, 123] else [1473, 1472, 55, 123]) else (bif Nat.ble 175 m then [1469, 1468, 54, 123] else [1454, 1453, 51, 123])) else (bif Nat.ble 172 m then (bif Nat.ble 173 m then [1465, 1464, 53, 123] else [1426, 1425, 44, 123]) else (bif Nat.ble 171 m then [1450, 1449, 50, 123] else [1446, 1445, 49, 123]))))) else (bif Nat.ble 153 m then (bif Nat.ble 161 m then (bif Nat.ble 165 m then (bif Nat.ble 167 m then (bif Nat.ble 168 m then (bif Nat.ble 169 m then [1458, 1457, 52, 123] else [1430, 1429, 45, 123]) else [1434, 1433, 46, 123]) else (bif Nat.ble 166 m then [1422, 1421, 43, 123] else [1392, 1391, 38, 123])) else (bif Nat.ble 163 m then (bif Nat.ble 164 m then [1396, 1395, 39, 123] else [1369, 1367, 1368, 123]) else (bif Nat.ble 162 m then [1365, 1364, 34, 123] else [1361, 1359, 1360, 123]))) else (bif Nat.ble 157 m then (bif Nat.ble 159 m then (bif Nat.ble 160 m then [1380, 1379, 35, 123] else [1827, 1826, 111, 123]) else (bif Nat.ble 158 m then [1830, 1829, 0, 123] else [1552, 1551, 0, 123])) else (bif Nat.ble 155 m then (bif Nat.ble 156 m then [1461, 1460, 0, 123] else [1372, 1371, 0, 123]) else (bif Nat.ble 154 m then [1198, 1197, 0, 123] else [1103, 1102, 0, 113])))) else (bif Nat.ble 144 m then (bif Nat.ble 148 m then (bif Nat.ble 150 m then (bif Nat.ble 151 m then (bif Nat.ble 152 m then [1100, 1099, 0, 113] else [1106, 1105, 0, 113]) else [1097, 1096, 0, 113]) else (bif Nat.ble 149 m then [1073, 1072, 0, 113] else [1076, 1075, 0, 113])) else (bif Nat.ble 146 m then (bif Nat.ble 147 m then [1080, 1079, 0, 113] else [1086, 1085, 0, 113]) else (bif Nat.ble 145 m then [1083, 1082, 0, 113] else [1002, 1001, 27, 113]))) else (bif Nat.ble 140 m then (bif Nat.ble 142 m then (bif Nat.ble 143 m then [993, 992, 0, 113] else [957, 956, 0, 113]) else (bif Nat.ble 141 m then [862, 861, 0, 113] else [800, 799, 0, 113])) else (bif Nat.ble 138 m then (bif Nat.ble 139 m then [1193, 1191, 1192, 113] else [1182, 1180, 1181, 113]) else (bif Nat.ble 137 m then [1178, 1176, 1177, 113] else [1170, 1168, 1169, 113]))))))) else (bif Nat.ble 68 m then (bif Nat.ble 102 m then (bif Nat.ble 119 m then (bif Nat.ble 127 m then (bif Nat.ble 131 m then (bif Nat.ble 133 m then (bif Nat.ble 134 m then (bif Nat.ble 135 m then [1154, 1152, 1153, 113] else [1125, 1123, 1124, 113]) else [1111, 1109, 1110, 113]) else (bif Nat.ble 132 m then [1094, 1092, 1093, 113] else [1090, 1088, 1089, 113])) else (bif Nat.ble 129 m then (bif Nat.ble 130 m then [1070, 1068, 1069, 113] else [1045, 1043, 1044, 113]) else (bif Nat.ble 128 m then [1030, 1028, 1029, 113] else [998, 996, 997, 113]))) else (bif Nat.ble 123 m then (bif Nat.ble 125 m then (bif Nat.ble 126 m then [989, 987, 988, 113] else [964, 962, 963, 113]) else (bif Nat.ble 124 m then [948, 946, 947, 113] else [934, 932, 933, 113])) else (bif Nat.ble 121 m then (bif Nat.ble 122 m then [920, 918, 919, 113] else [895, 893, 894, 113]) else (bif Nat.ble 120 m then [883, 881, 882, 113] else [822, 820, 821, 113])))) else (bif Nat.ble 110 m then (bif Nat.ble 114 m then (bif Nat.ble 116 m then (bif Nat.ble 117 m then (bif Nat.ble 118 m then [797, 795, 796, 113] else [789, 787, 788, 113]) else [781, 779, 780, 113]) else (bif Nat.ble 115 m then [773, 771, 772, 113] else [769, 767, 768, 113])) else (bif Nat.ble 112 m then (bif Nat.ble 113 m then [514, 512, 513, 113] else [510, 508, 509, 113]) else (bif Nat.ble 111 m then [502, 500, 501, 113] else [134, 133, 0, 113]))) else (bif Nat.ble 106 m then (bif Nat.ble 108 m then (bif Nat.ble 109 m then [1174, 1172, 1173, 120] else [1166, 1164, 1165, 120]) else (bif Nat.ble 107 m then [1158, 1156, 1157, 120] else [1150, 1148, 1149, 120])) else (bif Nat.ble 104 m then (bif Nat.ble 105 m then [1142, 1140, 1141, 120] else [1133, 1132, 32, 120]) else (bif Nat.ble 103 m then [1129, 1127, 1128, 120] else [1120, 1119, 31, 120]))))) else (bif Nat.ble 85 m then (bif Nat.ble 93 m then (bif Nat.ble 97 m then (bif Nat.ble 99 m then (bif Nat.ble 100 m then (bif Nat.ble 101 m then [1115, 1113, 1114, 120] else [929, 927, 928, 120]) else [924, 922, 923, 120]) else (bif Nat.ble 98 m then [899, 897, 898, 120] else [1146, 1145, 33, 120])) else (bif Nat.ble 95 m then (bif Nat.ble 96 m then [916, 915, 26, 120] else [911, 910, 25, 120]) else (bif Nat.ble 94 m then [905, 904, 24, 120] else [405, 404, 0, 120]))) else (bif Nat.ble 89 m then (bif Nat.ble 91 m then (bif Nat.ble 92 m then [1186, 1184, 1185, 114] else [742, 740, 741, 114]) else (bif Nat.ble 90 m then [747, 745, 746, 114] else [777, 775, 776, 114])) else (bif Nat.ble 87 m then (bif Nat.ble 88 m then [518, 516, 517, 114] else [506, 504, 505, 114]) else (bif Nat.ble 86 m then [142, 141, 0, 114] else [755, 753, 754, 116])))) else (bif Nat.ble 76 m then (bif Nat.ble 80 m then (bif Nat.ble 82 m then (bif Nat.ble 83 m then (bif Nat.ble 84 m then [1162, 1160, 1161, 116] else [711, 709, 710, 116]) else [715, 713, 714, 116]) else (bif Nat.ble 81 m then [720, 718, 719, 116] else [793, 791, 792, 116])) else (bif Nat.ble 78 m then (bif Nat.ble 79 m then [646, 644, 645, 116] else [724, 722, 723, 116]) else (bif Nat.ble 77 m then [157, 156, 0, 116] else [549, 548, 0, 118]))) else (bif Nat.ble 72 m then (bif Nat.ble 74 m then (bif Nat.ble 75 m then [546, 545, 0, 118] else [543, 542, 0, 118]) else (bif Nat.ble 73 m then [540, 539, 1, 118] else [553, 552, 2, 118])) else (bif Nat.ble 70 m then (bif Nat.ble 71 m then [536, 535, 0, 118] else [586, 585, 5, 118]) else (bif Nat.ble 69 m then [675, 674, 0, 118] else [672, 671, 10, 118])))))) else (bif Nat.ble 34 m then (bif Nat.ble 51 m then (bif Nat.ble 59 m then (bif Nat.ble 63 m then (bif Nat.ble 65 m then (bif Nat.ble 66 m then (bif Nat.ble 67 m then [686, 685, 0, 118] else [682, 681, 0, 118]) else [653, 652, 0, 118]) else (bif Nat.ble 64 m then [567, 566, 0, 118] else [564, 563, 0, 118])) else (bif Nat.ble 61 m then (bif Nat.ble 62 m then [561, 560, 4, 118] else [642, 641, 7, 118]) else (bif Nat.ble 60 m then [728, 727, 12, 118] else [690, 689, 11, 118]))) else (bif Nat.ble 55 m then (bif Nat.ble 57 m then (bif Nat.ble 58 m then [668, 667, 9, 118] else [557, 556, 3, 118]) else (bif Nat.ble 56 m then [638, 637, 6, 118] else [650, 649, 8, 118])) else (bif Nat.ble 53 m then (bif Nat.ble 54 m then [734, 733, 13, 118] else [522, 520, 521, 118]) else (bif Nat.ble 52 m then [751, 749, 750, 118] else [289, 288, 0, 118])))) else (bif Nat.ble 42 m then (bif Nat.ble 46 m then (bif Nat.ble 48 m then (bif Nat.ble 49 m then (bif Nat.ble 50 m then [979, 977, 978, 115] else [944, 942, 943, 115]) else [938, 936, 937, 115]) else (bif Nat.ble 47 m then [855, 853, 854, 115] else [818, 816, 817, 115])) else (bif Nat.ble 44 m then (bif Nat.ble 45 m then [707, 705, 706, 115] else [703, 701, 702, 115]) else (bif Nat.ble 43 m then [699, 697, 698, 115] else [694, 692, 693, 115]))) else (bif Nat.ble 38 m then (bif Nat.ble 40 m then (bif Nat.ble 41 m then [808, 806, 807, 115] else [1020, 1018, 1019, 115]) else (bif Nat.ble 39 m then [814, 813, 14, 115] else [804, 802, 803, 115])) else (bif Nat.ble 36 m then (bif Nat.ble 37 m then [785, 783, 784, 115] else [738, 736, 737, 115]) else (bif Nat.ble 35 m then [763, 761, 762, 115] else [529, 527, 528, 115]))))) else (bif Nat.ble 17 m then (bif Nat.ble 25 m then (bif Nat.ble 29 m then (bif Nat.ble 31 m then (bif Nat.ble 32 m then (bif Nat.ble 33 m then [151, 150, 0, 115] else [985, 983, 984, 122]) else [975, 974, 0, 122]) else (bif Nat.ble 30 m then [971, 970, 0, 122] else [968, 966, 967, 122])) else (bif Nat.ble 27 m then (bif Nat.ble 28 m then [464, 463, 0, 122] else [1065, 1063, 1064, 121]) else (bif Nat.ble 26 m then [1053, 1052, 30, 121] else [1061, 1059, 1060, 121]))) else (bif Nat.ble 21 m then (bif Nat.ble 23 m then (bif Nat.ble 24 m then [1057, 1055, 1056, 121] else [1049, 1047, 1048, 121]) else (bif Nat.ble 22 m then [1040, 1038, 1039, 121] else [1035, 1033, 1034, 121])) else (bif Nat.ble 19 m then (bif Nat.ble 20 m then [1025, 1023, 1024, 121] else [1016, 1015, 29, 121]) else (bif Nat.ble 18 m then [1012, 1011, 28, 121] else [1006, 1004, 1005, 121])))) else (bif Nat.ble 8 m then (bif Nat.ble 12 m then (bif Nat.ble 14 m then (bif Nat.ble 15 m then (bif Nat.ble 16 m then [434, 433, 0, 121] else [890, 889, 0, 119]) else [887, 885, 886, 119]) else (bif Nat.ble 13 m then [1138, 1136, 1137, 119] else [866, 865, 20, 119])) else (bif Nat.ble 10 m then (bif Nat.ble 11 m then [859, 858, 19, 119] else [879, 878, 23, 119]) else (bif Nat.ble 9 m then [875, 874, 22, 119] else [849, 848, 18, 119]))) else (bif Nat.ble 4 m then (bif Nat.ble 6 m then (bif Nat.ble 7 m then [871, 870, 21, 119] else [845, 844, 17, 119]) else (bif Nat.ble 5 m then [840, 839, 16, 119] else [834, 833, 15, 119])) else (bif Nat.ble 2 m then (bif Nat.ble 3 m then [830, 828, 829, 119] else [952, 950, 951, 119]) else (bif Nat.ble 1 m then [826, 824, 825, 119] else [345, 344, 0, 119]))))))))
def am_cp (c : Nat) : Nat := (bif Nat.ble 5 c then (bif Nat.ble 7 c then (bif Nat.ble 8 c then (bif Nat.ble 9 c then 123 else 113) else 120) else (bif Nat.ble 6 c then 114 else 116)) else (bif Nat.ble 2 c then (bif Nat.ble 3 c then (bif Nat.ble 4 c then 118 else 115) else 122) else (bif Nat.ble 1 c then 121 else 119)))
def am_at (pos : Nat) (w : Jvm.Cond) : Bool := decide (lw_tbl[pos]? = some w) && goodWord w
def am_atN (pos : Nat) (w : Jvm.Cond) : Bool := decide (lw_tbl[pos]? = some w)
def am_ac (t : Nat) : String := bif Nat.beq t 13 then RX3 else bif Nat.beq t 14 then RX5 else RX6
def am_len (i : Instr) : Nat := match i with
  | .bipush _ | .ldc _ | .iload _ | .lload _ | .aload _ | .istore _ | .lstore _ | .astore _ | .newarray _ => 2
  | .sipush _ | .ldc_w _ | .ldc2_w _ | .iinc _ _ | .goto _ | .ifCond _ _ | .if_icmp _ _ | .ifnull _ | .ifnonnull _ | .getfield _ | .putfield _ | .new _ | .anewarray _ | .invokevirtual _ | .invokestatic _ | .invokespecial _ => 3
  | _ => 1
def am_npar (y : MethodName) (n : Nat) : Bool := decide ((parseMethodDescriptor y.desc).map (fun d => d.parameters.length) = some n)
def am_rm (m k : Nat) : Bool := Nat.ble (am_fr k + 1) (am_fr m) && Nat.ble (8 + (am_maxL k + 11) + am_lo k) (am_lo m)
def am_lnk (m pc : Nat) (i : Instr) (a : List Nat) : Bool := match i with
  | .getfield idx => match a with
    | [ci, k, ft, pos] => Nat.blt ci 10 && Nat.blt k (am_nf ci) && Nat.beq ft (am_ft ci k) && am_at pos (.fieldLink (am_cn (am_own m)) idx (am_T ci k).1 (am_T ci k).2.1 (am_T ci k).2.2.1)
    | _ => false
  | .putfield idx => match a with
    | [ci, k, ft, pos] => Nat.blt ci 10 && Nat.blt k (am_nf ci) && Nat.beq ft (am_ft ci k) && am_at pos (.fieldLink (am_cn (am_own m)) idx (am_T ci k).1 (am_T ci k).2.1 (am_T ci k).2.2.1) && (!(am_T ci k).2.2.2 || (decide ((am_y m).name = "<init>") && decide ((am_T ci k).1 = am_cn (am_own m))))
    | _ => false
  | .new idx => match a with
    | [ci, n, pos, pos2] => Nat.blt ci 10 && Nat.beq n (am_nf ci) && am_at pos (.classLink (am_cn (am_own m)) idx (am_cn ci)) && am_at pos2 (.instantiable (am_cn ci) n)
    | _ => false
  | .anewarray idx => match a with
    | [t, pos] => Nat.ble 13 t && Nat.ble t 15 && am_at pos (.classLink (am_cn (am_own m)) idx (am_ac t))
    | _ => false
  | .ldc idx => match a with
    | [0, v, pos] => am_at pos (.constant (am_cn (am_own m)) idx (Int32.ofNat v))
    | [1, e] => Nat.beq (am_own m) 4 && Nat.beq (am_six e) idx
    | _ => false
  | .ldc_w idx => match a with
    | [0, v, pos] => am_at pos (.constant (am_cn (am_own m)) idx (Int32.ofNat v))
    | _ => false
  | .ldc2_w idx => match a with
    | [v, pos] => am_at pos (.constantLong (am_cn (am_own m)) idx (Int64.ofNat v))
    | _ => false
  | .invokevirtual idx => match a with
    | [0, k, na, pos, ci] => Nat.blt k 272 && Nat.blt ci 10 && am_at pos (.methodLink (am_cn (am_own m)) idx (am_y k)) && decide ((am_y k).cls = am_cn ci) && am_npar (am_y k) na && am_rm m k && (match am_mp k with | [_, p1, p2, _] => am_at p1 (.instanceMethod (am_y k)) && am_at p2 (.selects (am_cn ci) (am_y k) (am_y k)) | _ => false)
    | [10, _, _, pos, _] => am_at pos (.methodLink (am_cn (am_own m)) idx yJ0_length_8abf5) && Nat.ble 2 (am_fr m) && Nat.ble 40 (am_lo m)
    | [11, _, _, pos, _] => am_at pos (.methodLink (am_cn (am_own m)) idx yJ0_charAt_5068e) && Nat.ble 4 (am_fr m) && Nat.ble 85 (am_lo m)
    | _ => false
  | .invokestatic idx => match a with
    | [1, k, na, pos, _] => Nat.blt k 272 && am_at pos (.methodLink (am_cn (am_own m)) idx (am_y k)) && am_npar (am_y k) na && am_rm m k && (match am_mp k with | [_, p1, _, _] => am_at p1 (.static (am_y k)) | _ => false)
    | [2, k, na, pos, _] => Nat.blt k 272 && am_atN pos (.methodLinkNest (am_cn (am_own m)) idx (am_y k) "WetPaint") && am_npar (am_y k) na && am_rm m k && (match am_mp k with | [_, p1, _, _] => am_at p1 (.static (am_y k)) | _ => false)
    | [6, _, _, pos, _] => am_at pos (.methodLink (am_cn (am_own m)) idx Lib.Math.max.name) && Nat.ble 1 (am_fr m) && Nat.ble 21 (am_lo m)
    | [7, _, _, pos, _] => am_at pos (.methodLink (am_cn (am_own m)) idx Lib.Math.min.name) && Nat.ble 1 (am_fr m) && Nat.ble 21 (am_lo m)
    | [8, _, _, pos, _] => am_at pos (.methodLink (am_cn (am_own m)) idx Lib.Math.abs.name) && Nat.ble 1 (am_fr m) && Nat.ble 21 (am_lo m)
    | [9, _, _, pos, _] => am_at pos (.methodLink (am_cn (am_own m)) idx arraycopyName) && Nat.ble 1 (am_fr m) && Nat.ble 26 (am_lo m)
    | _ => false
  | .invokespecial idx => match a with
    | [3, k, na, pos, _] => Nat.blt k 272 && am_at pos (.methodLink (am_cn (am_own m)) idx (am_y k)) && decide ((am_y k).name = "<init>") && decide (am_rt k = none) && am_npar (am_y k) na && am_rm m k && (match am_mp k with | [_, p1, _, _] => am_at p1 (.instanceMethod (am_y k)) | _ => false)
    | [4, k, na, pos, _] => Nat.blt k 272 && am_atN pos (.methodLinkNest (am_cn (am_own m)) idx (am_y k) "WetPaint") && decide ((am_y k).name = "<init>") && decide (am_rt k = none) && am_npar (am_y k) na && am_rm m k && (match am_mp k with | [_, p1, _, _] => am_at p1 (.instanceMethod (am_y k)) | _ => false)
    | [5, _, _, pos, _] => am_at pos (.methodLink (am_cn (am_own m)) idx objectInit) && Nat.ble 1 (am_fr m) && Nat.ble 20 (am_lo m)
    | _ => false
  | .goto off | .ifCond _ off | .if_icmp _ off | .ifnull off | .ifnonnull off => decide (0 ≤ (pc : Int) + off)
  | .tableswitch d _ _ offs => decide (0 ≤ (pc : Int) + d) && offs.toList.all (fun o => decide (0 ≤ (pc : Int) + o))
  | .ireturn => match a with
    | [0] => decide (am_rt m = some .int)
    | [1] => decide (am_rt m = some .boolean)
    | _ => false
  | .lreturn => decide (am_rt m = some .long)
  | .areturn => match am_rt m with
    | some (.object _) => true
    | _ => false
  | .return_ => decide (am_rt m = none)
  | _ => true
def am_isw (i : Instr) : Bool := match i with
  | .tableswitch _ _ _ _ => true
  | _ => false
def am_ok (m pc : Nat) : Bool := match am_code m pc with
  | none => true
  | some (i, len, a) => decide (decode (am_bytes m) pc = .ok (i, len)) && (am_isw i || Nat.beq len (am_len i)) && am_lnk m pc i a
/-- what a method's own words are -/
def am_mok (m : Nat) : Bool := (match am_mp m with
  | [_, _, _, p3] => am_at p3 (.initialized (am_y m).cls)
  | _ => false) && decide ((am_y m).cls ≠ "java/lang/invoke/MethodHandle" ∧ (am_y m).cls ≠ "java/lang/invoke/VarHandle") && plainName (am_y m).cls && Nat.blt (am_own m) 12 && decide (am_cn (am_own m) = (am_y m).cls)
def am_Fact : Prop := ∀ (m pc len : Nat) (i : Instr) (a : List Nat), am_code m pc = some (i, len, a) → m < 273 ∧ decode (am_bytes m) pc = .ok (i, len) ∧ (am_isw i = true ∨ len = am_len i) ∧ am_lnk m pc i a = true
set_option maxRecDepth 100000 in
theorem am_glob : am_at 136 (.instanceMethod objectInit) && am_at 137 (.code objectInit ⟨#[0xb1]⟩ 1 none) && am_at 117 (.initialized "java/lang/Math") && am_at 160 (.static Lib.Math.max.name) && am_at 524 (.static Lib.Math.min.name) && am_at 959 (.static Lib.Math.abs.name) && am_at 161 (.code Lib.Math.max.name Lib.Math.max.code 2 (some .int)) && am_at 525 (.code Lib.Math.min.name Lib.Math.min.code 2 (some .int)) && am_at 960 (.code Lib.Math.abs.name Lib.Math.abs.code 1 (some .int)) && am_at 759 (.native arraycopyName) && am_at 758 (.static arraycopyName) && am_at 129 (.initialized "java/lang/System") && am_at 182 (.arrayClass .int) && am_at 181 (.arrayClass .byte) && am_at 1357 (.arrayClass .boolean) = true := by decide +kernel
set_option maxRecDepth 100000 in
theorem am_inis : ∀ c, c < 10 → am_at (am_cp c) (.initialized (am_cn c)) = true := by decide +kernel
set_option maxRecDepth 100000 in
theorem am_moks : ∀ m, m < 272 → am_mok m = true := by decide +kernel
set_option maxRecDepth 100000 in
theorem mw_0 : tables_1_1[233]? = some (.code (am_y 0) (am_bytes 0) (am_maxL 0) (am_rt 0)) := rfl
set_option maxRecDepth 100000 in
theorem mw_1 : tables_1_3[234]? = some (.code (am_y 1) (am_bytes 1) (am_maxL 1) (am_rt 1)) := rfl
set_option maxRecDepth 100000 in
theorem mw_2 : tables_1_4[120]? = some (.code (am_y 2) (am_bytes 2) (am_maxL 2) (am_rt 2)) := rfl
set_option maxRecDepth 100000 in
theorem mw_3 : tables_1_3[238]? = some (.code (am_y 3) (am_bytes 3) (am_maxL 3) (am_rt 3)) := rfl
set_option maxRecDepth 100000 in
theorem mw_4 : tables_1_4[2]? = some (.code (am_y 4) (am_bytes 4) (am_maxL 4) (am_rt 4)) := rfl
set_option maxRecDepth 100000 in
theorem mw_5 : tables_1_4[8]? = some (.code (am_y 5) (am_bytes 5) (am_maxL 5) (am_rt 5)) := rfl
set_option maxRecDepth 100000 in
theorem mw_6 : tables_1_4[13]? = some (.code (am_y 6) (am_bytes 6) (am_maxL 6) (am_rt 6)) := rfl
set_option maxRecDepth 100000 in
theorem mw_7 : tables_1_4[39]? = some (.code (am_y 7) (am_bytes 7) (am_maxL 7) (am_rt 7)) := rfl
set_option maxRecDepth 100000 in
theorem mw_8 : tables_1_4[17]? = some (.code (am_y 8) (am_bytes 8) (am_maxL 8) (am_rt 8)) := rfl
set_option maxRecDepth 100000 in
theorem mw_9 : tables_1_4[43]? = some (.code (am_y 9) (am_bytes 9) (am_maxL 9) (am_rt 9)) := rfl
set_option maxRecDepth 100000 in
theorem mw_10 : tables_1_4[47]? = some (.code (am_y 10) (am_bytes 10) (am_maxL 10) (am_rt 10)) := rfl
set_option maxRecDepth 100000 in
theorem mw_11 : tables_1_4[27]? = some (.code (am_y 11) (am_bytes 11) (am_maxL 11) (am_rt 11)) := rfl
set_option maxRecDepth 100000 in
theorem mw_12 : tables_1_4[34]? = some (.code (am_y 12) (am_bytes 12) (am_maxL 12) (am_rt 12)) := rfl
set_option maxRecDepth 100000 in
theorem mw_13 : tables_1_5[66]? = some (.code (am_y 13) (am_bytes 13) (am_maxL 13) (am_rt 13)) := rfl
set_option maxRecDepth 100000 in
theorem mw_14 : tables_1_4[55]? = some (.code (am_y 14) (am_bytes 14) (am_maxL 14) (am_rt 14)) := rfl
set_option maxRecDepth 100000 in
theorem mw_15 : tables_1_4[58]? = some (.code (am_y 15) (am_bytes 15) (am_maxL 15) (am_rt 15)) := rfl
set_option maxRecDepth 100000 in
theorem mw_16 : tables_1_2[82]? = some (.code (am_y 16) (am_bytes 16) (am_maxL 16) (am_rt 16)) := rfl
set_option maxRecDepth 100000 in
theorem mw_17 : tables_1_4[174]? = some (.code (am_y 17) (am_bytes 17) (am_maxL 17) (am_rt 17)) := rfl
set_option maxRecDepth 100000 in
theorem mw_18 : tables_1_4[180]? = some (.code (am_y 18) (am_bytes 18) (am_maxL 18) (am_rt 18)) := rfl
set_option maxRecDepth 100000 in
theorem mw_19 : tables_1_4[184]? = some (.code (am_y 19) (am_bytes 19) (am_maxL 19) (am_rt 19)) := rfl
set_option maxRecDepth 100000 in
theorem mw_20 : tables_1_4[193]? = some (.code (am_y 20) (am_bytes 20) (am_maxL 20) (am_rt 20)) := rfl
set_option maxRecDepth 100000 in
theorem mw_21 : tables_1_4[203]? = some (.code (am_y 21) (am_bytes 21) (am_maxL 21) (am_rt 21)) := rfl
set_option maxRecDepth 100000 in
theorem mw_22 : tables_1_4[208]? = some (.code (am_y 22) (am_bytes 22) (am_maxL 22) (am_rt 22)) := rfl
set_option maxRecDepth 100000 in
theorem mw_23 : tables_1_4[217]? = some (.code (am_y 23) (am_bytes 23) (am_maxL 23) (am_rt 23)) := rfl
set_option maxRecDepth 100000 in
theorem mw_24 : tables_1_4[225]? = some (.code (am_y 24) (am_bytes 24) (am_maxL 24) (am_rt 24)) := rfl
set_option maxRecDepth 100000 in
theorem mw_25 : tables_1_4[229]? = some (.code (am_y 25) (am_bytes 25) (am_maxL 25) (am_rt 25)) := rfl
set_option maxRecDepth 100000 in
theorem mw_26 : tables_1_4[221]? = some (.code (am_y 26) (am_bytes 26) (am_maxL 26) (am_rt 26)) := rfl
set_option maxRecDepth 100000 in
theorem mw_27 : tables_1_4[233]? = some (.code (am_y 27) (am_bytes 27) (am_maxL 27) (am_rt 27)) := rfl
set_option maxRecDepth 100000 in
theorem mw_28 : tables_1_2[112]? = some (.code (am_y 28) (am_bytes 28) (am_maxL 28) (am_rt 28)) := rfl
set_option maxRecDepth 100000 in
theorem mw_29 : tables_1_4[136]? = some (.code (am_y 29) (am_bytes 29) (am_maxL 29) (am_rt 29)) := rfl
set_option maxRecDepth 100000 in
theorem mw_30 : tables_1_4[139]? = some (.code (am_y 30) (am_bytes 30) (am_maxL 30) (am_rt 30)) := rfl
set_option maxRecDepth 100000 in
theorem mw_31 : tables_1_4[143]? = some (.code (am_y 31) (am_bytes 31) (am_maxL 31) (am_rt 31)) := rfl
set_option maxRecDepth 100000 in
theorem mw_32 : tables_1_4[153]? = some (.code (am_y 32) (am_bytes 32) (am_maxL 32) (am_rt 32)) := rfl
set_option maxRecDepth 100000 in
theorem mw_33 : tables_1_1[39]? = some (.code (am_y 33) (am_bytes 33) (am_maxL 33) (am_rt 33)) := rfl
set_option maxRecDepth 100000 in
theorem mw_34 : tables_1_2[177]? = some (.code (am_y 34) (am_bytes 34) (am_maxL 34) (am_rt 34)) := rfl
set_option maxRecDepth 100000 in
theorem mw_35 : tables_1_3[171]? = some (.code (am_y 35) (am_bytes 35) (am_maxL 35) (am_rt 35)) := rfl
set_option maxRecDepth 100000 in
theorem mw_36 : tables_1_3[146]? = some (.code (am_y 36) (am_bytes 36) (am_maxL 36) (am_rt 36)) := rfl
set_option maxRecDepth 100000 in
theorem mw_37 : tables_1_3[193]? = some (.code (am_y 37) (am_bytes 37) (am_maxL 37) (am_rt 37)) := rfl
set_option maxRecDepth 100000 in
theorem mw_38 : tables_1_3[212]? = some (.code (am_y 38) (am_bytes 38) (am_maxL 38) (am_rt 38)) := rfl
set_option maxRecDepth 100000 in
theorem mw_39 : tables_1_3[222]? = some (.code (am_y 39) (am_bytes 39) (am_maxL 39) (am_rt 39)) := rfl
set_option maxRecDepth 100000 in
theorem mw_40 : tables_1_4[188]? = some (.code (am_y 40) (am_bytes 40) (am_maxL 40) (am_rt 40)) := rfl
set_option maxRecDepth 100000 in
theorem mw_41 : tables_1_3[216]? = some (.code (am_y 41) (am_bytes 41) (am_maxL 41) (am_rt 41)) := rfl
set_option maxRecDepth 100000 in
theorem mw_42 : tables_1_3[102]? = some (.code (am_y 42) (am_bytes 42) (am_maxL 42) (am_rt 42)) := rfl
set_option maxRecDepth 100000 in
theorem mw_43 : tables_1_3[107]? = some (.code (am_y 43) (am_bytes 43) (am_maxL 43) (am_rt 43)) := rfl
set_option maxRecDepth 100000 in
theorem mw_44 : tables_1_3[111]? = some (.code (am_y 44) (am_bytes 44) (am_maxL 44) (am_rt 44)) := rfl
set_option maxRecDepth 100000 in
theorem mw_45 : tables_1_3[115]? = some (.code (am_y 45) (am_bytes 45) (am_maxL 45) (am_rt 45)) := rfl
set_option maxRecDepth 100000 in
theorem mw_46 : tables_1_3[226]? = some (.code (am_y 46) (am_bytes 46) (am_maxL 46) (am_rt 46)) := rfl
set_option maxRecDepth 100000 in
theorem mw_47 : tables_1_4[23]? = some (.code (am_y 47) (am_bytes 47) (am_maxL 47) (am_rt 47)) := rfl
set_option maxRecDepth 100000 in
theorem mw_48 : tables_1_4[106]? = some (.code (am_y 48) (am_bytes 48) (am_maxL 48) (am_rt 48)) := rfl
set_option maxRecDepth 100000 in
theorem mw_49 : tables_1_4[112]? = some (.code (am_y 49) (am_bytes 49) (am_maxL 49) (am_rt 49)) := rfl
set_option maxRecDepth 100000 in
theorem mw_50 : tables_1_4[147]? = some (.code (am_y 50) (am_bytes 50) (am_maxL 50) (am_rt 50)) := rfl
set_option maxRecDepth 100000 in
theorem mw_51 : tables_1_1[177]? = some (.code (am_y 51) (am_bytes 51) (am_maxL 51) (am_rt 51)) := rfl
set_option maxRecDepth 100000 in
theorem mw_52 : tables_1_3[159]? = some (.code (am_y 52) (am_bytes 52) (am_maxL 52) (am_rt 52)) := rfl
set_option maxRecDepth 100000 in
theorem mw_53 : tables_1_2[170]? = some (.code (am_y 53) (am_bytes 53) (am_maxL 53) (am_rt 53)) := rfl
set_option maxRecDepth 100000 in
theorem mw_54 : tables_1_3[142]? = some (.code (am_y 54) (am_bytes 54) (am_maxL 54) (am_rt 54)) := rfl
set_option maxRecDepth 100000 in
theorem mw_55 : tables_1_3[58]? = some (.code (am_y 55) (am_bytes 55) (am_maxL 55) (am_rt 55)) := rfl
set_option maxRecDepth 100000 in
theorem mw_56 : tables_1_3[46]? = some (.code (am_y 56) (am_bytes 56) (am_maxL 56) (am_rt 56)) := rfl
set_option maxRecDepth 100000 in
theorem mw_57 : tables_1_2[205]? = some (.code (am_y 57) (am_bytes 57) (am_maxL 57) (am_rt 57)) := rfl
set_option maxRecDepth 100000 in
theorem mw_58 : tables_1_3[76]? = some (.code (am_y 58) (am_bytes 58) (am_maxL 58) (am_rt 58)) := rfl
set_option maxRecDepth 100000 in
theorem mw_59 : tables_1_3[98]? = some (.code (am_y 59) (am_bytes 59) (am_maxL 59) (am_rt 59)) := rfl
set_option maxRecDepth 100000 in
theorem mw_60 : tables_1_3[136]? = some (.code (am_y 60) (am_bytes 60) (am_maxL 60) (am_rt 60)) := rfl
set_option maxRecDepth 100000 in
theorem mw_61 : tables_1_3[50]? = some (.code (am_y 61) (am_bytes 61) (am_maxL 61) (am_rt 61)) := rfl
set_option maxRecDepth 100000 in
theorem mw_62 : tables_1_2[209]? = some (.code (am_y 62) (am_bytes 62) (am_maxL 62) (am_rt 62)) := rfl
set_option maxRecDepth 100000 in
theorem mw_63 : tables_1_2[212]? = some (.code (am_y 63) (am_bytes 63) (am_maxL 63) (am_rt 63)) := rfl
set_option maxRecDepth 100000 in
theorem mw_64 : tables_1_2[215]? = some (.code (am_y 64) (am_bytes 64) (am_maxL 64) (am_rt 64)) := rfl
set_option maxRecDepth 100000 in
theorem mw_65 : tables_1_3[61]? = some (.code (am_y 65) (am_bytes 65) (am_maxL 65) (am_rt 65)) := rfl
set_option maxRecDepth 100000 in
theorem mw_66 : tables_1_3[90]? = some (.code (am_y 66) (am_bytes 66) (am_maxL 66) (am_rt 66)) := rfl
set_option maxRecDepth 100000 in
theorem mw_67 : tables_1_3[94]? = some (.code (am_y 67) (am_bytes 67) (am_maxL 67) (am_rt 67)) := rfl
set_option maxRecDepth 100000 in
theorem mw_68 : tables_1_3[80]? = some (.code (am_y 68) (am_bytes 68) (am_maxL 68) (am_rt 68)) := rfl
set_option maxRecDepth 100000 in
theorem mw_69 : tables_1_3[83]? = some (.code (am_y 69) (am_bytes 69) (am_maxL 69) (am_rt 69)) := rfl
set_option maxRecDepth 100000 in
theorem mw_70 : tables_1_2[234]? = some (.code (am_y 70) (am_bytes 70) (am_maxL 70) (am_rt 70)) := rfl
set_option maxRecDepth 100000 in
theorem mw_71 : tables_1_2[184]? = some (.code (am_y 71) (am_bytes 71) (am_maxL 71) (am_rt 71)) := rfl
set_option maxRecDepth 100000 in
theorem mw_72 : tables_1_2[201]? = some (.code (am_y 72) (am_bytes 72) (am_maxL 72) (am_rt 72)) := rfl
set_option maxRecDepth 100000 in
theorem mw_73 : tables_1_2[188]? = some (.code (am_y 73) (am_bytes 73) (am_maxL 73) (am_rt 73)) := rfl
set_option maxRecDepth 100000 in
theorem mw_74 : tables_1_2[191]? = some (.code (am_y 74) (am_bytes 74) (am_maxL 74) (am_rt 74)) := rfl
set_option maxRecDepth 100000 in
theorem mw_75 : tables_1_2[194]? = some (.code (am_y 75) (am_bytes 75) (am_maxL 75) (am_rt 75)) := rfl
set_option maxRecDepth 100000 in
theorem mw_76 : tables_1_2[197]? = some (.code (am_y 76) (am_bytes 76) (am_maxL 76) (am_rt 76)) := rfl
set_option maxRecDepth 100000 in
theorem mw_77 : tables_1_1[45]? = some (.code (am_y 77) (am_bytes 77) (am_maxL 77) (am_rt 77)) := rfl
set_option maxRecDepth 100000 in
theorem mw_78 : tables_1_3[132]? = some (.code (am_y 78) (am_bytes 78) (am_maxL 78) (am_rt 78)) := rfl
set_option maxRecDepth 100000 in
theorem mw_79 : tables_1_3[54]? = some (.code (am_y 79) (am_bytes 79) (am_maxL 79) (am_rt 79)) := rfl
set_option maxRecDepth 100000 in
theorem mw_80 : tables_1_3[201]? = some (.code (am_y 80) (am_bytes 80) (am_maxL 80) (am_rt 80)) := rfl
set_option maxRecDepth 100000 in
theorem mw_81 : tables_1_3[128]? = some (.code (am_y 81) (am_bytes 81) (am_maxL 81) (am_rt 81)) := rfl
set_option maxRecDepth 100000 in
theorem mw_82 : tables_1_3[123]? = some (.code (am_y 82) (am_bytes 82) (am_maxL 82) (am_rt 82)) := rfl
set_option maxRecDepth 100000 in
theorem mw_83 : tables_1_3[119]? = some (.code (am_y 83) (am_bytes 83) (am_maxL 83) (am_rt 83)) := rfl
set_option maxRecDepth 100000 in
theorem mw_84 : tables_1_5[90]? = some (.code (am_y 84) (am_bytes 84) (am_maxL 84) (am_rt 84)) := rfl
set_option maxRecDepth 100000 in
theorem mw_85 : tables_1_3[163]? = some (.code (am_y 85) (am_bytes 85) (am_maxL 85) (am_rt 85)) := rfl
set_option maxRecDepth 100000 in
theorem mw_86 : tables_1_1[30]? = some (.code (am_y 86) (am_bytes 86) (am_maxL 86) (am_rt 86)) := rfl
set_option maxRecDepth 100000 in
theorem mw_87 : tables_1_2[154]? = some (.code (am_y 87) (am_bytes 87) (am_maxL 87) (am_rt 87)) := rfl
set_option maxRecDepth 100000 in
theorem mw_88 : tables_1_2[166]? = some (.code (am_y 88) (am_bytes 88) (am_maxL 88) (am_rt 88)) := rfl
set_option maxRecDepth 100000 in
theorem mw_89 : tables_1_3[185]? = some (.code (am_y 89) (am_bytes 89) (am_maxL 89) (am_rt 89)) := rfl
set_option maxRecDepth 100000 in
theorem mw_90 : tables_1_3[155]? = some (.code (am_y 90) (am_bytes 90) (am_maxL 90) (am_rt 90)) := rfl
set_option maxRecDepth 100000 in
theorem mw_91 : tables_1_3[150]? = some (.code (am_y 91) (am_bytes 91) (am_maxL 91) (am_rt 91)) := rfl
set_option maxRecDepth 100000 in
theorem mw_92 : tables_1_5[114]? = some (.code (am_y 92) (am_bytes 92) (am_maxL 92) (am_rt 92)) := rfl
set_option maxRecDepth 100000 in
theorem mw_93 : tables_1_2[53]? = some (.code (am_y 93) (am_bytes 93) (am_maxL 93) (am_rt 93)) := rfl
set_option maxRecDepth 100000 in
theorem mw_94 : tables_1_4[73]? = some (.code (am_y 94) (am_bytes 94) (am_maxL 94) (am_rt 94)) := rfl
set_option maxRecDepth 100000 in
theorem mw_95 : tables_1_4[79]? = some (.code (am_y 95) (am_bytes 95) (am_maxL 95) (am_rt 95)) := rfl
set_option maxRecDepth 100000 in
theorem mw_96 : tables_1_4[84]? = some (.code (am_y 96) (am_bytes 96) (am_maxL 96) (am_rt 96)) := rfl
set_option maxRecDepth 100000 in
theorem mw_97 : tables_1_5[74]? = some (.code (am_y 97) (am_bytes 97) (am_maxL 97) (am_rt 97)) := rfl
set_option maxRecDepth 100000 in
theorem mw_98 : tables_1_4[67]? = some (.code (am_y 98) (am_bytes 98) (am_maxL 98) (am_rt 98)) := rfl
set_option maxRecDepth 100000 in
theorem mw_99 : tables_1_4[92]? = some (.code (am_y 99) (am_bytes 99) (am_maxL 99) (am_rt 99)) := rfl
set_option maxRecDepth 100000 in
theorem mw_100 : tables_1_4[97]? = some (.code (am_y 100) (am_bytes 100) (am_maxL 100) (am_rt 100)) := rfl
set_option maxRecDepth 100000 in
theorem mw_101 : tables_1_5[43]? = some (.code (am_y 101) (am_bytes 101) (am_maxL 101) (am_rt 101)) := rfl
set_option maxRecDepth 100000 in
theorem mw_102 : tables_1_5[48]? = some (.code (am_y 102) (am_bytes 102) (am_maxL 102) (am_rt 102)) := rfl
set_option maxRecDepth 100000 in
theorem mw_103 : tables_1_5[57]? = some (.code (am_y 103) (am_bytes 103) (am_maxL 103) (am_rt 103)) := rfl
set_option maxRecDepth 100000 in
theorem mw_104 : tables_1_5[61]? = some (.code (am_y 104) (am_bytes 104) (am_maxL 104) (am_rt 104)) := rfl
set_option maxRecDepth 100000 in
theorem mw_105 : tables_1_5[70]? = some (.code (am_y 105) (am_bytes 105) (am_maxL 105) (am_rt 105)) := rfl
set_option maxRecDepth 100000 in
theorem mw_106 : tables_1_5[78]? = some (.code (am_y 106) (am_bytes 106) (am_maxL 106) (am_rt 106)) := rfl
set_option maxRecDepth 100000 in
theorem mw_107 : tables_1_5[86]? = some (.code (am_y 107) (am_bytes 107) (am_maxL 107) (am_rt 107)) := rfl
set_option maxRecDepth 100000 in
theorem mw_108 : tables_1_5[94]? = some (.code (am_y 108) (am_bytes 108) (am_maxL 108) (am_rt 108)) := rfl
set_option maxRecDepth 100000 in
theorem mw_109 : tables_1_5[102]? = some (.code (am_y 109) (am_bytes 109) (am_maxL 109) (am_rt 109)) := rfl
set_option maxRecDepth 100000 in
theorem mw_110 : tables_1_1[22]? = some (.code (am_y 110) (am_bytes 110) (am_maxL 110) (am_rt 110)) := rfl
set_option maxRecDepth 100000 in
theorem mw_111 : tables_1_2[150]? = some (.code (am_y 111) (am_bytes 111) (am_maxL 111) (am_rt 111)) := rfl
set_option maxRecDepth 100000 in
theorem mw_112 : tables_1_2[158]? = some (.code (am_y 112) (am_bytes 112) (am_maxL 112) (am_rt 112)) := rfl
set_option maxRecDepth 100000 in
theorem mw_113 : tables_1_2[162]? = some (.code (am_y 113) (am_bytes 113) (am_maxL 113) (am_rt 113)) := rfl
set_option maxRecDepth 100000 in
theorem mw_114 : tables_1_3[177]? = some (.code (am_y 114) (am_bytes 114) (am_maxL 114) (am_rt 114)) := rfl
set_option maxRecDepth 100000 in
theorem mw_115 : tables_1_3[181]? = some (.code (am_y 115) (am_bytes 115) (am_maxL 115) (am_rt 115)) := rfl
set_option maxRecDepth 100000 in
theorem mw_116 : tables_1_3[189]? = some (.code (am_y 116) (am_bytes 116) (am_maxL 116) (am_rt 116)) := rfl
set_option maxRecDepth 100000 in
theorem mw_117 : tables_1_3[197]? = some (.code (am_y 117) (am_bytes 117) (am_maxL 117) (am_rt 117)) := rfl
set_option maxRecDepth 100000 in
theorem mw_118 : tables_1_3[205]? = some (.code (am_y 118) (am_bytes 118) (am_maxL 118) (am_rt 118)) := rfl
set_option maxRecDepth 100000 in
theorem mw_119 : tables_1_3[230]? = some (.code (am_y 119) (am_bytes 119) (am_maxL 119) (am_rt 119)) := rfl
set_option maxRecDepth 100000 in
theorem mw_120 : tables_1_4[51]? = some (.code (am_y 120) (am_bytes 120) (am_maxL 120) (am_rt 120)) := rfl
set_option maxRecDepth 100000 in
theorem mw_121 : tables_1_4[63]? = some (.code (am_y 121) (am_bytes 121) (am_maxL 121) (am_rt 121)) := rfl
set_option maxRecDepth 100000 in
theorem mw_122 : tables_1_4[88]? = some (.code (am_y 122) (am_bytes 122) (am_maxL 122) (am_rt 122)) := rfl
set_option maxRecDepth 100000 in
theorem mw_123 : tables_1_4[102]? = some (.code (am_y 123) (am_bytes 123) (am_maxL 123) (am_rt 123)) := rfl
set_option maxRecDepth 100000 in
theorem mw_124 : tables_1_4[116]? = some (.code (am_y 124) (am_bytes 124) (am_maxL 124) (am_rt 124)) := rfl
set_option maxRecDepth 100000 in
theorem mw_125 : tables_1_4[132]? = some (.code (am_y 125) (am_bytes 125) (am_maxL 125) (am_rt 125)) := rfl
set_option maxRecDepth 100000 in
theorem mw_126 : tables_1_4[157]? = some (.code (am_y 126) (am_bytes 126) (am_maxL 126) (am_rt 126)) := rfl
set_option maxRecDepth 100000 in
theorem mw_127 : tables_1_4[166]? = some (.code (am_y 127) (am_bytes 127) (am_maxL 127) (am_rt 127)) := rfl
set_option maxRecDepth 100000 in
theorem mw_128 : tables_1_4[198]? = some (.code (am_y 128) (am_bytes 128) (am_maxL 128) (am_rt 128)) := rfl
set_option maxRecDepth 100000 in
theorem mw_129 : tables_1_4[213]? = some (.code (am_y 129) (am_bytes 129) (am_maxL 129) (am_rt 129)) := rfl
set_option maxRecDepth 100000 in
theorem mw_130 : tables_1_4[238]? = some (.code (am_y 130) (am_bytes 130) (am_maxL 130) (am_rt 130)) := rfl
set_option maxRecDepth 100000 in
theorem mw_131 : tables_1_5[18]? = some (.code (am_y 131) (am_bytes 131) (am_maxL 131) (am_rt 131)) := rfl
set_option maxRecDepth 100000 in
theorem mw_132 : tables_1_5[22]? = some (.code (am_y 132) (am_bytes 132) (am_maxL 132) (am_rt 132)) := rfl
set_option maxRecDepth 100000 in
theorem mw_133 : tables_1_5[39]? = some (.code (am_y 133) (am_bytes 133) (am_maxL 133) (am_rt 133)) := rfl
set_option maxRecDepth 100000 in
theorem mw_134 : tables_1_5[53]? = some (.code (am_y 134) (am_bytes 134) (am_maxL 134) (am_rt 134)) := rfl
set_option maxRecDepth 100000 in
theorem mw_135 : tables_1_5[82]? = some (.code (am_y 135) (am_bytes 135) (am_maxL 135) (am_rt 135)) := rfl
set_option maxRecDepth 100000 in
theorem mw_136 : tables_1_5[98]? = some (.code (am_y 136) (am_bytes 136) (am_maxL 136) (am_rt 136)) := rfl
set_option maxRecDepth 100000 in
theorem mw_137 : tables_1_5[106]? = some (.code (am_y 137) (am_bytes 137) (am_maxL 137) (am_rt 137)) := rfl
set_option maxRecDepth 100000 in
theorem mw_138 : tables_1_5[110]? = some (.code (am_y 138) (am_bytes 138) (am_maxL 138) (am_rt 138)) := rfl
set_option maxRecDepth 100000 in
theorem mw_139 : tables_1_5[121]? = some (.code (am_y 139) (am_bytes 139) (am_maxL 139) (am_rt 139)) := rfl
set_option maxRecDepth 100000 in
theorem mw_140 : tables_1_3[208]? = some (.code (am_y 140) (am_bytes 140) (am_maxL 140) (am_rt 140)) := rfl
set_option maxRecDepth 100000 in
theorem mw_141 : tables_1_4[30]? = some (.code (am_y 141) (am_bytes 141) (am_maxL 141) (am_rt 141)) := rfl
set_option maxRecDepth 100000 in
theorem mw_142 : tables_1_4[125]? = some (.code (am_y 142) (am_bytes 142) (am_maxL 142) (am_rt 142)) := rfl
set_option maxRecDepth 100000 in
theorem mw_143 : tables_1_4[161]? = some (.code (am_y 143) (am_bytes 143) (am_maxL 143) (am_rt 143)) := rfl
set_option maxRecDepth 100000 in
theorem mw_144 : tables_1_4[170]? = some (.code (am_y 144) (am_bytes 144) (am_maxL 144) (am_rt 144)) := rfl
set_option maxRecDepth 100000 in
theorem mw_145 : tables_1_5[11]? = some (.code (am_y 145) (am_bytes 145) (am_maxL 145) (am_rt 145)) := rfl
set_option maxRecDepth 100000 in
theorem mw_146 : tables_1_5[14]? = some (.code (am_y 146) (am_bytes 146) (am_maxL 146) (am_rt 146)) := rfl
set_option maxRecDepth 100000 in
theorem mw_147 : tables_1_5[8]? = some (.code (am_y 147) (am_bytes 147) (am_maxL 147) (am_rt 147)) := rfl
set_option maxRecDepth 100000 in
theorem mw_148 : tables_1_5[4]? = some (.code (am_y 148) (am_bytes 148) (am_maxL 148) (am_rt 148)) := rfl
set_option maxRecDepth 100000 in
theorem mw_149 : tables_1_5[1]? = some (.code (am_y 149) (am_bytes 149) (am_maxL 149) (am_rt 149)) := rfl
set_option maxRecDepth 100000 in
theorem mw_150 : tables_1_5[25]? = some (.code (am_y 150) (am_bytes 150) (am_maxL 150) (am_rt 150)) := rfl
set_option maxRecDepth 100000 in
theorem mw_151 : tables_1_5[34]? = some (.code (am_y 151) (am_bytes 151) (am_maxL 151) (am_rt 151)) := rfl
set_option maxRecDepth 100000 in
theorem mw_152 : tables_1_5[28]? = some (.code (am_y 152) (am_bytes 152) (am_maxL 152) (am_rt 152)) := rfl
set_option maxRecDepth 100000 in
theorem mw_153 : tables_1_5[31]? = some (.code (am_y 153) (am_bytes 153) (am_maxL 153) (am_rt 153)) := rfl
set_option maxRecDepth 100000 in
theorem mw_154 : tables_1_5[126]? = some (.code (am_y 154) (am_bytes 154) (am_maxL 154) (am_rt 154)) := rfl
set_option maxRecDepth 100000 in
theorem mw_155 : tables_1_6[60]? = some (.code (am_y 155) (am_bytes 155) (am_maxL 155) (am_rt 155)) := rfl
set_option maxRecDepth 100000 in
theorem mw_156 : tables_1_6[149]? = some (.code (am_y 156) (am_bytes 156) (am_maxL 156) (am_rt 156)) := rfl
set_option maxRecDepth 100000 in
theorem mw_157 : tables_1_7[0]? = some (.code (am_y 157) (am_bytes 157) (am_maxL 157) (am_rt 157)) := rfl
set_option maxRecDepth 100000 in
theorem mw_158 : tables_1_8[38]? = some (.code (am_y 158) (am_bytes 158) (am_maxL 158) (am_rt 158)) := rfl
set_option maxRecDepth 100000 in
theorem mw_159 : tables_1_8[35]? = some (.code (am_y 159) (am_bytes 159) (am_maxL 159) (am_rt 159)) := rfl
set_option maxRecDepth 100000 in
theorem mw_160 : tables_1_6[68]? = some (.code (am_y 160) (am_bytes 160) (am_maxL 160) (am_rt 160)) := rfl
set_option maxRecDepth 100000 in
theorem mw_161 : tables_1_6[49]? = some (.code (am_y 161) (am_bytes 161) (am_maxL 161) (am_rt 161)) := rfl
set_option maxRecDepth 100000 in
theorem mw_162 : tables_1_6[53]? = some (.code (am_y 162) (am_bytes 162) (am_maxL 162) (am_rt 162)) := rfl
set_option maxRecDepth 100000 in
theorem mw_163 : tables_1_6[57]? = some (.code (am_y 163) (am_bytes 163) (am_maxL 163) (am_rt 163)) := rfl
set_option maxRecDepth 100000 in
theorem mw_164 : tables_1_6[84]? = some (.code (am_y 164) (am_bytes 164) (am_maxL 164) (am_rt 164)) := rfl
set_option maxRecDepth 100000 in
theorem mw_165 : tables_1_6[80]? = some (.code (am_y 165) (am_bytes 165) (am_maxL 165) (am_rt 165)) := rfl
set_option maxRecDepth 100000 in
theorem mw_166 : tables_1_6[110]? = some (.code (am_y 166) (am_bytes 166) (am_maxL 166) (am_rt 166)) := rfl
set_option maxRecDepth 100000 in
theorem mw_167 : tables_1_6[122]? = some (.code (am_y 167) (am_bytes 167) (am_maxL 167) (am_rt 167)) := rfl
set_option maxRecDepth 100000 in
theorem mw_168 : tables_1_6[118]? = some (.code (am_y 168) (am_bytes 168) (am_maxL 168) (am_rt 168)) := rfl
set_option maxRecDepth 100000 in
theorem mw_169 : tables_1_6[146]? = some (.code (am_y 169) (am_bytes 169) (am_maxL 169) (am_rt 169)) := rfl
set_option maxRecDepth 100000 in
theorem mw_170 : tables_1_6[134]? = some (.code (am_y 170) (am_bytes 170) (am_maxL 170) (am_rt 170)) := rfl
set_option maxRecDepth 100000 in
theorem mw_171 : tables_1_6[138]? = some (.code (am_y 171) (am_bytes 171) (am_maxL 171) (am_rt 171)) := rfl
set_option maxRecDepth 100000 in
theorem mw_172 : tables_1_6[114]? = some (.code (am_y 172) (am_bytes 172) (am_maxL 172) (am_rt 172)) := rfl
set_option maxRecDepth 100000 in
theorem mw_173 : tables_1_6[153]? = some (.code (am_y 173) (am_bytes 173) (am_maxL 173) (am_rt 173)) := rfl
set_option maxRecDepth 100000 in
theorem mw_174 : tables_1_6[142]? = some (.code (am_y 174) (am_bytes 174) (am_maxL 174) (am_rt 174)) := rfl
set_option maxRecDepth 100000 in
theorem mw_175 : tables_1_6[157]? = some (.code (am_y 175) (am_bytes 175) (am_maxL 175) (am_rt 175)) := rfl
set_option maxRecDepth 100000 in
theorem mw_176 : tables_1_6[161]? = some (.code (am_y 176) (am_bytes 176) (am_maxL 176) (am_rt 176)) := rfl
set_option maxRecDepth 100000 in
theorem mw_177 : tables_1_6[168]? = some (.code (am_y 177) (am_bytes 177) (am_maxL 177) (am_rt 177)) := rfl
set_option maxRecDepth 100000 in
theorem mw_178 : tables_1_6[165]? = some (.code (am_y 178) (am_bytes 178) (am_maxL 178) (am_rt 178)) := rfl
set_option maxRecDepth 100000 in
theorem mw_179 : tables_1_6[130]? = some (.code (am_y 179) (am_bytes 179) (am_maxL 179) (am_rt 179)) := rfl
set_option maxRecDepth 100000 in
theorem mw_180 : tables_1_6[126]? = some (.code (am_y 180) (am_bytes 180) (am_maxL 180) (am_rt 180)) := rfl
set_option maxRecDepth 100000 in
theorem mw_181 : tables_1_6[96]? = some (.code (am_y 181) (am_bytes 181) (am_maxL 181) (am_rt 181)) := rfl
set_option maxRecDepth 100000 in
theorem mw_182 : tables_1_6[176]? = some (.code (am_y 182) (am_bytes 182) (am_maxL 182) (am_rt 182)) := rfl
set_option maxRecDepth 100000 in
theorem mw_183 : tables_1_6[183]? = some (.code (am_y 183) (am_bytes 183) (am_maxL 183) (am_rt 183)) := rfl
set_option maxRecDepth 100000 in
theorem mw_184 : tables_1_6[188]? = some (.code (am_y 184) (am_bytes 184) (am_maxL 184) (am_rt 184)) := rfl
set_option maxRecDepth 100000 in
theorem mw_185 : tables_1_6[92]? = some (.code (am_y 185) (am_bytes 185) (am_maxL 185) (am_rt 185)) := rfl
set_option maxRecDepth 100000 in
theorem mw_186 : tables_1_6[88]? = some (.code (am_y 186) (am_bytes 186) (am_maxL 186) (am_rt 186)) := rfl
set_option maxRecDepth 100000 in
theorem mw_187 : tables_1_6[76]? = some (.code (am_y 187) (am_bytes 187) (am_maxL 187) (am_rt 187)) := rfl
set_option maxRecDepth 100000 in
theorem mw_188 : tables_1_6[72]? = some (.code (am_y 188) (am_bytes 188) (am_maxL 188) (am_rt 188)) := rfl
set_option maxRecDepth 100000 in
theorem mw_189 : tables_1_6[197]? = some (.code (am_y 189) (am_bytes 189) (am_maxL 189) (am_rt 189)) := rfl
set_option maxRecDepth 100000 in
theorem mw_190 : tables_1_6[193]? = some (.code (am_y 190) (am_bytes 190) (am_maxL 190) (am_rt 190)) := rfl
set_option maxRecDepth 100000 in
theorem mw_191 : tables_1_6[64]? = some (.code (am_y 191) (am_bytes 191) (am_maxL 191) (am_rt 191)) := rfl
set_option maxRecDepth 100000 in
theorem mw_192 : tables_1_6[201]? = some (.code (am_y 192) (am_bytes 192) (am_maxL 192) (am_rt 192)) := rfl
set_option maxRecDepth 100000 in
theorem mw_193 : tables_1_6[209]? = some (.code (am_y 193) (am_bytes 193) (am_maxL 193) (am_rt 193)) := rfl
set_option maxRecDepth 100000 in
theorem mw_194 : tables_1_6[217]? = some (.code (am_y 194) (am_bytes 194) (am_maxL 194) (am_rt 194)) := rfl
set_option maxRecDepth 100000 in
theorem mw_195 : tables_1_7[16]? = some (.code (am_y 195) (am_bytes 195) (am_maxL 195) (am_rt 195)) := rfl
set_option maxRecDepth 100000 in
theorem mw_196 : tables_1_6[229]? = some (.code (am_y 196) (am_bytes 196) (am_maxL 196) (am_rt 196)) := rfl
set_option maxRecDepth 100000 in
theorem mw_197 : tables_1_7[32]? = some (.code (am_y 197) (am_bytes 197) (am_maxL 197) (am_rt 197)) := rfl
set_option maxRecDepth 100000 in
theorem mw_198 : tables_1_6[205]? = some (.code (am_y 198) (am_bytes 198) (am_maxL 198) (am_rt 198)) := rfl
set_option maxRecDepth 100000 in
theorem mw_199 : tables_1_6[213]? = some (.code (am_y 199) (am_bytes 199) (am_maxL 199) (am_rt 199)) := rfl
set_option maxRecDepth 100000 in
theorem mw_200 : tables_1_6[221]? = some (.code (am_y 200) (am_bytes 200) (am_maxL 200) (am_rt 200)) := rfl
set_option maxRecDepth 100000 in
theorem mw_201 : tables_1_6[237]? = some (.code (am_y 201) (am_bytes 201) (am_maxL 201) (am_rt 201)) := rfl
set_option maxRecDepth 100000 in
theorem mw_202 : tables_1_6[233]? = some (.code (am_y 202) (am_bytes 202) (am_maxL 202) (am_rt 202)) := rfl
set_option maxRecDepth 100000 in
theorem mw_203 : tables_1_7[4]? = some (.code (am_y 203) (am_bytes 203) (am_maxL 203) (am_rt 203)) := rfl
set_option maxRecDepth 100000 in
theorem mw_204 : tables_1_7[8]? = some (.code (am_y 204) (am_bytes 204) (am_maxL 204) (am_rt 204)) := rfl
set_option maxRecDepth 100000 in
theorem mw_205 : tables_1_6[225]? = some (.code (am_y 205) (am_bytes 205) (am_maxL 205) (am_rt 205)) := rfl
set_option maxRecDepth 100000 in
theorem mw_206 : tables_1_7[44]? = some (.code (am_y 206) (am_bytes 206) (am_maxL 206) (am_rt 206)) := rfl
set_option maxRecDepth 100000 in
theorem mw_207 : tables_1_7[48]? = some (.code (am_y 207) (am_bytes 207) (am_maxL 207) (am_rt 207)) := rfl
set_option maxRecDepth 100000 in
theorem mw_208 : tables_1_7[28]? = some (.code (am_y 208) (am_bytes 208) (am_maxL 208) (am_rt 208)) := rfl
set_option maxRecDepth 100000 in
theorem mw_209 : tables_1_7[51]? = some (.code (am_y 209) (am_bytes 209) (am_maxL 209) (am_rt 209)) := rfl
set_option maxRecDepth 100000 in
theorem mw_210 : tables_1_7[40]? = some (.code (am_y 210) (am_bytes 210) (am_maxL 210) (am_rt 210)) := rfl
set_option maxRecDepth 100000 in
theorem mw_211 : tables_1_7[55]? = some (.code (am_y 211) (am_bytes 211) (am_maxL 211) (am_rt 211)) := rfl
set_option maxRecDepth 100000 in
theorem mw_212 : tables_1_7[36]? = some (.code (am_y 212) (am_bytes 212) (am_maxL 212) (am_rt 212)) := rfl
set_option maxRecDepth 100000 in
theorem mw_213 : tables_1_7[24]? = some (.code (am_y 213) (am_bytes 213) (am_maxL 213) (am_rt 213)) := rfl
set_option maxRecDepth 100000 in
theorem mw_214 : tables_1_7[20]? = some (.code (am_y 214) (am_bytes 214) (am_maxL 214) (am_rt 214)) := rfl
set_option maxRecDepth 100000 in
theorem mw_215 : tables_1_7[12]? = some (.code (am_y 215) (am_bytes 215) (am_maxL 215) (am_rt 215)) := rfl
set_option maxRecDepth 100000 in
theorem mw_216 : tables_1_7[66]? = some (.code (am_y 216) (am_bytes 216) (am_maxL 216) (am_rt 216)) := rfl
set_option maxRecDepth 100000 in
theorem mw_217 : tables_1_7[63]? = some (.code (am_y 217) (am_bytes 217) (am_maxL 217) (am_rt 217)) := rfl
set_option maxRecDepth 100000 in
theorem mw_218 : tables_1_7[59]? = some (.code (am_y 218) (am_bytes 218) (am_maxL 218) (am_rt 218)) := rfl
set_option maxRecDepth 100000 in
theorem mw_219 : tables_1_7[70]? = some (.code (am_y 219) (am_bytes 219) (am_maxL 219) (am_rt 219)) := rfl
set_option maxRecDepth 100000 in
theorem mw_220 : tables_1_7[78]? = some (.code (am_y 220) (am_bytes 220) (am_maxL 220) (am_rt 220)) := rfl
set_option maxRecDepth 100000 in
theorem mw_221 : tables_1_7[74]? = some (.code (am_y 221) (am_bytes 221) (am_maxL 221) (am_rt 221)) := rfl
set_option maxRecDepth 100000 in
theorem mw_222 : tables_1_7[86]? = some (.code (am_y 222) (am_bytes 222) (am_maxL 222) (am_rt 222)) := rfl
set_option maxRecDepth 100000 in
theorem mw_223 : tables_1_7[90]? = some (.code (am_y 223) (am_bytes 223) (am_maxL 223) (am_rt 223)) := rfl
set_option maxRecDepth 100000 in
theorem mw_224 : tables_1_7[82]? = some (.code (am_y 224) (am_bytes 224) (am_maxL 224) (am_rt 224)) := rfl
set_option maxRecDepth 100000 in
theorem mw_225 : tables_1_7[100]? = some (.code (am_y 225) (am_bytes 225) (am_maxL 225) (am_rt 225)) := rfl
set_option maxRecDepth 100000 in
theorem mw_226 : tables_1_7[97]? = some (.code (am_y 226) (am_bytes 226) (am_maxL 226) (am_rt 226)) := rfl
set_option maxRecDepth 100000 in
theorem mw_227 : tables_1_7[94]? = some (.code (am_y 227) (am_bytes 227) (am_maxL 227) (am_rt 227)) := rfl
set_option maxRecDepth 100000 in
theorem mw_228 : tables_1_7[117]? = some (.code (am_y 228) (am_bytes 228) (am_maxL 228) (am_rt 228)) := rfl
set_option maxRecDepth 100000 in
theorem mw_229 : tables_1_7[113]? = some (.code (am_y 229) (am_bytes 229) (am_maxL 229) (am_rt 229)) := rfl
set_option maxRecDepth 100000 in
theorem mw_230 : tables_1_7[109]? = some (.code (am_y 230) (am_bytes 230) (am_maxL 230) (am_rt 230)) := rfl
set_option maxRecDepth 100000 in
theorem mw_231 : tables_1_7[104]? = some (.code (am_y 231) (am_bytes 231) (am_maxL 231) (am_rt 231)) := rfl
set_option maxRecDepth 100000 in
theorem mw_232 : tables_1_7[129]? = some (.code (am_y 232) (am_bytes 232) (am_maxL 232) (am_rt 232)) := rfl
set_option maxRecDepth 100000 in
theorem mw_233 : tables_1_7[133]? = some (.code (am_y 233) (am_bytes 233) (am_maxL 233) (am_rt 233)) := rfl
set_option maxRecDepth 100000 in
theorem mw_234 : tables_1_7[125]? = some (.code (am_y 234) (am_bytes 234) (am_maxL 234) (am_rt 234)) := rfl
set_option maxRecDepth 100000 in
theorem mw_235 : tables_1_7[121]? = some (.code (am_y 235) (am_bytes 235) (am_maxL 235) (am_rt 235)) := rfl
set_option maxRecDepth 100000 in
theorem mw_236 : tables_1_7[149]? = some (.code (am_y 236) (am_bytes 236) (am_maxL 236) (am_rt 236)) := rfl
set_option maxRecDepth 100000 in
theorem mw_237 : tables_1_7[145]? = some (.code (am_y 237) (am_bytes 237) (am_maxL 237) (am_rt 237)) := rfl
set_option maxRecDepth 100000 in
theorem mw_238 : tables_1_7[153]? = some (.code (am_y 238) (am_bytes 238) (am_maxL 238) (am_rt 238)) := rfl
set_option maxRecDepth 100000 in
theorem mw_239 : tables_1_7[141]? = some (.code (am_y 239) (am_bytes 239) (am_maxL 239) (am_rt 239)) := rfl
set_option maxRecDepth 100000 in
theorem mw_240 : tables_1_7[137]? = some (.code (am_y 240) (am_bytes 240) (am_maxL 240) (am_rt 240)) := rfl
set_option maxRecDepth 100000 in
theorem mw_241 : tables_1_7[162]? = some (.code (am_y 241) (am_bytes 241) (am_maxL 241) (am_rt 241)) := rfl
set_option maxRecDepth 100000 in
theorem mw_242 : tables_1_7[157]? = some (.code (am_y 242) (am_bytes 242) (am_maxL 242) (am_rt 242)) := rfl
set_option maxRecDepth 100000 in
theorem mw_243 : tables_1_7[170]? = some (.code (am_y 243) (am_bytes 243) (am_maxL 243) (am_rt 243)) := rfl
set_option maxRecDepth 100000 in
theorem mw_244 : tables_1_7[166]? = some (.code (am_y 244) (am_bytes 244) (am_maxL 244) (am_rt 244)) := rfl
set_option maxRecDepth 100000 in
theorem mw_245 : tables_1_7[178]? = some (.code (am_y 245) (am_bytes 245) (am_maxL 245) (am_rt 245)) := rfl
set_option maxRecDepth 100000 in
theorem mw_246 : tables_1_7[194]? = some (.code (am_y 246) (am_bytes 246) (am_maxL 246) (am_rt 246)) := rfl
set_option maxRecDepth 100000 in
theorem mw_247 : tables_1_7[190]? = some (.code (am_y 247) (am_bytes 247) (am_maxL 247) (am_rt 247)) := rfl
set_option maxRecDepth 100000 in
theorem mw_248 : tables_1_7[186]? = some (.code (am_y 248) (am_bytes 248) (am_maxL 248) (am_rt 248)) := rfl
set_option maxRecDepth 100000 in
theorem mw_249 : tables_1_7[182]? = some (.code (am_y 249) (am_bytes 249) (am_maxL 249) (am_rt 249)) := rfl
set_option maxRecDepth 100000 in
theorem mw_250 : tables_1_7[174]? = some (.code (am_y 250) (am_bytes 250) (am_maxL 250) (am_rt 250)) := rfl
set_option maxRecDepth 100000 in
theorem mw_251 : tables_1_7[206]? = some (.code (am_y 251) (am_bytes 251) (am_maxL 251) (am_rt 251)) := rfl
set_option maxRecDepth 100000 in
theorem mw_252 : tables_1_7[210]? = some (.code (am_y 252) (am_bytes 252) (am_maxL 252) (am_rt 252)) := rfl
set_option maxRecDepth 100000 in
theorem mw_253 : tables_1_7[202]? = some (.code (am_y 253) (am_bytes 253) (am_maxL 253) (am_rt 253)) := rfl
set_option maxRecDepth 100000 in
theorem mw_254 : tables_1_7[198]? = some (.code (am_y 254) (am_bytes 254) (am_maxL 254) (am_rt 254)) := rfl
set_option maxRecDepth 100000 in
theorem mw_255 : tables_1_7[226]? = some (.code (am_y 255) (am_bytes 255) (am_maxL 255) (am_rt 255)) := rfl
set_option maxRecDepth 100000 in
theorem mw_256 : tables_1_7[222]? = some (.code (am_y 256) (am_bytes 256) (am_maxL 256) (am_rt 256)) := rfl
set_option maxRecDepth 100000 in
theorem mw_257 : tables_1_7[218]? = some (.code (am_y 257) (am_bytes 257) (am_maxL 257) (am_rt 257)) := rfl
set_option maxRecDepth 100000 in
theorem mw_258 : tables_1_7[230]? = some (.code (am_y 258) (am_bytes 258) (am_maxL 258) (am_rt 258)) := rfl
set_option maxRecDepth 100000 in
theorem mw_259 : tables_1_7[214]? = some (.code (am_y 259) (am_bytes 259) (am_maxL 259) (am_rt 259)) := rfl
set_option maxRecDepth 100000 in
theorem mw_260 : tables_1_7[238]? = some (.code (am_y 260) (am_bytes 260) (am_maxL 260) (am_rt 260)) := rfl
set_option maxRecDepth 100000 in
theorem mw_261 : tables_1_7[234]? = some (.code (am_y 261) (am_bytes 261) (am_maxL 261) (am_rt 261)) := rfl
set_option maxRecDepth 100000 in
theorem mw_262 : tables_1_8[7]? = some (.code (am_y 262) (am_bytes 262) (am_maxL 262) (am_rt 262)) := rfl
set_option maxRecDepth 100000 in
theorem mw_263 : tables_1_8[11]? = some (.code (am_y 263) (am_bytes 263) (am_maxL 263) (am_rt 263)) := rfl
set_option maxRecDepth 100000 in
theorem mw_264 : tables_1_8[3]? = some (.code (am_y 264) (am_bytes 264) (am_maxL 264) (am_rt 264)) := rfl
set_option maxRecDepth 100000 in
theorem mw_265 : tables_1_8[19]? = some (.code (am_y 265) (am_bytes 265) (am_maxL 265) (am_rt 265)) := rfl
set_option maxRecDepth 100000 in
theorem mw_266 : tables_1_8[15]? = some (.code (am_y 266) (am_bytes 266) (am_maxL 266) (am_rt 266)) := rfl
set_option maxRecDepth 100000 in
theorem mw_267 : tables_1_8[23]? = some (.code (am_y 267) (am_bytes 267) (am_maxL 267) (am_rt 267)) := rfl
set_option maxRecDepth 100000 in
theorem mw_268 : tables_1_8[27]? = some (.code (am_y 268) (am_bytes 268) (am_maxL 268) (am_rt 268)) := rfl
set_option maxRecDepth 100000 in
theorem mw_269 : tables_1_8[31]? = some (.code (am_y 269) (am_bytes 269) (am_maxL 269) (am_rt 269)) := rfl
set_option maxRecDepth 100000 in
theorem mw_270 : tables_1_8[42]? = some (.code (am_y 270) (am_bytes 270) (am_maxL 270) (am_rt 270)) := rfl
set_option maxRecDepth 100000 in
theorem mw_271 : tables_1_2[180]? = some (.code (am_y 271) (am_bytes 271) (am_maxL 271) (am_rt 271)) := rfl
theorem tin_1 {w : Jvm.Cond} (h : w ∈ tables_1_1) : w ∈ lw_tbl := List.mem_append_right _ (show w ∈ tables_1_1 ++ (tables_1_2 ++ (tables_1_3 ++ (tables_1_4 ++ (tables_1_5 ++ (tables_1_6 ++ (tables_1_7 ++ tables_1_8)))))) from List.mem_append_left _ h)
theorem tin_2 {w : Jvm.Cond} (h : w ∈ tables_1_2) : w ∈ lw_tbl := List.mem_append_right _ (show w ∈ tables_1_1 ++ (tables_1_2 ++ (tables_1_3 ++ (tables_1_4 ++ (tables_1_5 ++ (tables_1_6 ++ (tables_1_7 ++ tables_1_8)))))) from List.mem_append_right _ (List.mem_append_left _ h))
theorem tin_3 {w : Jvm.Cond} (h : w ∈ tables_1_3) : w ∈ lw_tbl := List.mem_append_right _ (show w ∈ tables_1_1 ++ (tables_1_2 ++ (tables_1_3 ++ (tables_1_4 ++ (tables_1_5 ++ (tables_1_6 ++ (tables_1_7 ++ tables_1_8)))))) from List.mem_append_right _ (List.mem_append_right _ (List.mem_append_left _ h)))
theorem tin_4 {w : Jvm.Cond} (h : w ∈ tables_1_4) : w ∈ lw_tbl := List.mem_append_right _ (show w ∈ tables_1_1 ++ (tables_1_2 ++ (tables_1_3 ++ (tables_1_4 ++ (tables_1_5 ++ (tables_1_6 ++ (tables_1_7 ++ tables_1_8)))))) from List.mem_append_right _ (List.mem_append_right _ (List.mem_append_right _ (List.mem_append_left _ h))))
theorem tin_5 {w : Jvm.Cond} (h : w ∈ tables_1_5) : w ∈ lw_tbl := List.mem_append_right _ (show w ∈ tables_1_1 ++ (tables_1_2 ++ (tables_1_3 ++ (tables_1_4 ++ (tables_1_5 ++ (tables_1_6 ++ (tables_1_7 ++ tables_1_8)))))) from List.mem_append_right _ (List.mem_append_right _ (List.mem_append_right _ (List.mem_append_right _ (List.mem_append_left _ h)))))
theorem tin_6 {w : Jvm.Cond} (h : w ∈ tables_1_6) : w ∈ lw_tbl := List.mem_append_right _ (show w ∈ tables_1_1 ++ (tables_1_2 ++ (tables_1_3 ++ (tables_1_4 ++ (tables_1_5 ++ (tables_1_6 ++ (tables_1_7 ++ tables_1_8)))))) from List.mem_append_right _ (List.mem_append_right _ (List.mem_append_right _ (List.mem_append_right _ (List.mem_append_right _ (List.mem_append_left _ h))))))
theorem tin_7 {w : Jvm.Cond} (h : w ∈ tables_1_7) : w ∈ lw_tbl := List.mem_append_right _ (show w ∈ tables_1_1 ++ (tables_1_2 ++ (tables_1_3 ++ (tables_1_4 ++ (tables_1_5 ++ (tables_1_6 ++ (tables_1_7 ++ tables_1_8)))))) from List.mem_append_right _ (List.mem_append_right _ (List.mem_append_right _ (List.mem_append_right _ (List.mem_append_right _ (List.mem_append_right _ (List.mem_append_left _ h)))))))
theorem tin_8 {w : Jvm.Cond} (h : w ∈ tables_1_8) : w ∈ lw_tbl := List.mem_append_right _ (show w ∈ tables_1_1 ++ (tables_1_2 ++ (tables_1_3 ++ (tables_1_4 ++ (tables_1_5 ++ (tables_1_6 ++ (tables_1_7 ++ tables_1_8)))))) from List.mem_append_right _ (List.mem_append_right _ (List.mem_append_right _ (List.mem_append_right _ (List.mem_append_right _ (List.mem_append_right _ (List.mem_append_right _ (h))))))))
set_option maxRecDepth 100000 in
theorem am_cw_0 : ∀ m, m < 40 → Jvm.Cond.code (am_y m) (am_bytes m) (am_maxL m) (am_rt m) ∈ lw_tbl := lt_s (i := 39) (lt_s (i := 38) (lt_s (i := 37) (lt_s (i := 36) (lt_s (i := 35) (lt_s (i := 34) (lt_s (i := 33) (lt_s (i := 32) (lt_s (i := 31) (lt_s (i := 30) (lt_s (i := 29) (lt_s (i := 28) (lt_s (i := 27) (lt_s (i := 26) (lt_s (i := 25) (lt_s (i := 24) (lt_s (i := 23) (lt_s (i := 22) (lt_s (i := 21) (lt_s (i := 20) (lt_s (i := 19) (lt_s (i := 18) (lt_s (i := 17) (lt_s (i := 16) (lt_s (i := 15) (lt_s (i := 14) (lt_s (i := 13) (lt_s (i := 12) (lt_s (i := 11) (lt_s (i := 10) (lt_s (i := 9) (lt_s (i := 8) (lt_s (i := 7) (lt_s (i := 6) (lt_s (i := 5) (lt_s (i := 4) (lt_s (i := 3) (lt_s (i := 2) (lt_s (i := 1) (lt_s (i := 0) (lt_0) (tin_1 (List.mem_of_getElem? mw_0))) (tin_3 (List.mem_of_getElem? mw_1))) (tin_4 (List.mem_of_getElem? mw_2))) (tin_3 (List.mem_of_getElem? mw_3))) (tin_4 (List.mem_of_getElem? mw_4))) (tin_4 (List.mem_of_getElem? mw_5))) (tin_4 (List.mem_of_getElem? mw_6))) (tin_4 (List.mem_of_getElem? mw_7))) (tin_4 (List.mem_of_getElem? mw_8))) (tin_4 (List.mem_of_getElem? mw_9))) (tin_4 (List.mem_of_getElem? mw_10))) (tin_4 (List.mem_of_getElem? mw_11))) (tin_4 (List.mem_of_getElem? mw_12))) (tin_5 (List.mem_of_getElem? mw_13))) (tin_4 (List.mem_of_getElem? mw_14))) (tin_4 (List.mem_of_getElem? mw_15))) (tin_2 (List.mem_of_getElem? mw_16))) (tin_4 (List.mem_of_getElem? mw_17))) (tin_4 (List.mem_of_getElem? mw_18))) (tin_4 (List.mem_of_getElem? mw_19))) (tin_4 (List.mem_of_getElem? mw_20))) (tin_4 (List.mem_of_getElem? mw_21))) (tin_4 (List.mem_of_getElem? mw_22))) (tin_4 (List.mem_of_getElem? mw_23))) (tin_4 (List.mem_of_getElem? mw_24))) (tin_4 (List.mem_of_getElem? mw_25))) (tin_4 (List.mem_of_getElem? mw_26))) (tin_4 (List.mem_of_getElem? mw_27))) (tin_2 (List.mem_of_getElem? mw_28))) (tin_4 (List.mem_of_getElem? mw_29))) (tin_4 (List.mem_of_getElem? mw_30))) (tin_4 (List.mem_of_getElem? mw_31))) (tin_4 (List.mem_of_getElem? mw_32))) (tin_1 (List.mem_of_getElem? mw_33))) (tin_2 (List.mem_of_getElem? mw_34))) (tin_3 (List.mem_of_getElem? mw_35))) (tin_3 (List.mem_of_getElem? mw_36))) (tin_3 (List.mem_of_getElem? mw_37))) (tin_3 (List.mem_of_getElem? mw_38))) (tin_3 (List.mem_of_getElem? mw_39))
set_option maxRecDepth 100000 in
theorem am_cw_40 : ∀ m, m < 80 → Jvm.Cond.code (am_y m) (am_bytes m) (am_maxL m) (am_rt m) ∈ lw_tbl := lt_s (i := 79) (lt_s (i := 78) (lt_s (i := 77) (lt_s (i := 76) (lt_s (i := 75) (lt_s (i := 74) (lt_s (i := 73) (lt_s (i := 72) (lt_s (i := 71) (lt_s (i := 70) (lt_s (i := 69) (lt_s (i := 68) (lt_s (i := 67) (lt_s (i := 66) (lt_s (i := 65) (lt_s (i := 64) (lt_s (i := 63) (lt_s (i := 62) (lt_s (i := 61) (lt_s (i := 60) (lt_s (i := 59) (lt_s (i := 58) (lt_s (i := 57) (lt_s (i := 56) (lt_s (i := 55) (lt_s (i := 54) (lt_s (i := 53) (lt_s (i := 52) (lt_s (i := 51) (lt_s (i := 50) (lt_s (i := 49) (lt_s (i := 48) (lt_s (i := 47) (lt_s (i := 46) (lt_s (i := 45) (lt_s (i := 44) (lt_s (i := 43) (lt_s (i := 42) (lt_s (i := 41) (lt_s (i := 40) (am_cw_0) (tin_4 (List.mem_of_getElem? mw_40))) (tin_3 (List.mem_of_getElem? mw_41))) (tin_3 (List.mem_of_getElem? mw_42))) (tin_3 (List.mem_of_getElem? mw_43))) (tin_3 (List.mem_of_getElem? mw_44))) (tin_3 (List.mem_of_getElem? mw_45))) (tin_3 (List.mem_of_getElem? mw_46))) (tin_4 (List.mem_of_getElem? mw_47))) (tin_4 (List.mem_of_getElem? mw_48))) (tin_4 (List.mem_of_getElem? mw_49))) (tin_4 (List.mem_of_getElem? mw_50))) (tin_1 (List.mem_of_getElem? mw_51))) (tin_3 (List.mem_of_getElem? mw_52))) (tin_2 (List.mem_of_getElem? mw_53))) (tin_3 (List.mem_of_getElem? mw_54))) (tin_3 (List.mem_of_getElem? mw_55))) (tin_3 (List.mem_of_getElem? mw_56))) (tin_2 (List.mem_of_getElem? mw_57))) (tin_3 (List.mem_of_getElem? mw_58))) (tin_3 (List.mem_of_getElem? mw_59))) (tin_3 (List.mem_of_getElem? mw_60))) (tin_3 (List.mem_of_getElem? mw_61))) (tin_2 (List.mem_of_getElem? mw_62))) (tin_2 (List.mem_of_getElem? mw_63))) (tin_2 (List.mem_of_getElem? mw_64))) (tin_3 (List.mem_of_getElem? mw_65))) (tin_3 (List.mem_of_getElem? mw_66))) (tin_3 (List.mem_of_getElem? mw_67))) (tin_3 (List.mem_of_getElem? mw_68))) (tin_3 (List.mem_of_getElem? mw_69))) (tin_2 (List.mem_of_getElem? mw_70))) (tin_2 (List.mem_of_getElem? mw_71))) (tin_2 (List.mem_of_getElem? mw_72))) (tin_2 (List.mem_of_getElem? mw_73))) (tin_2 (List.mem_of_getElem? mw_74))) (tin_2 (List.mem_of_getElem? mw_75))) (tin_2 (List.mem_of_getElem? mw_76))) (tin_1 (List.mem_of_getElem? mw_77))) (tin_3 (List.mem_of_getElem? mw_78))) (tin_3 (List.mem_of_getElem? mw_79))
set_option maxRecDepth 100000 in
theorem am_cw_80 : ∀ m, m < 120 → Jvm.Cond.code (am_y m) (am_bytes m) (am_maxL m) (am_rt m) ∈ lw_tbl := lt_s (i := 119) (lt_s (i := 118) (lt_s (i := 117) (lt_s (i := 116) (lt_s (i := 115) (lt_s (i := 114) (lt_s (i := 113) (lt_s (i := 112) (lt_s (i := 111) (lt_s (i := 110) (lt_s (i := 109) (lt_s (i := 108) (lt_s (i := 107) (lt_s (i := 106) (lt_s (i := 105) (lt_s (i := 104) (lt_s (i := 103) (lt_s (i := 102) (lt_s (i := 101) (lt_s (i := 100) (lt_s (i := 99) (lt_s (i := 98) (lt_s (i := 97) (lt_s (i := 96) (lt_s (i := 95) (lt_s (i := 94) (lt_s (i := 93) (lt_s (i := 92) (lt_s (i := 91) (lt_s (i := 90) (lt_s (i := 89) (lt_s (i := 88) (lt_s (i := 87) (lt_s (i := 86) (lt_s (i := 85) (lt_s (i := 84) (lt_s (i := 83) (lt_s (i := 82) (lt_s (i := 81) (lt_s (i := 80) (am_cw_40) (tin_3 (List.mem_of_getElem? mw_80))) (tin_3 (List.mem_of_getElem? mw_81))) (tin_3 (List.mem_of_getElem? mw_82))) (tin_3 (List.mem_of_getElem? mw_83))) (tin_5 (List.mem_of_getElem? mw_84))) (tin_3 (List.mem_of_getElem? mw_85))) (tin_1 (List.mem_of_getElem? mw_86))) (tin_2 (List.mem_of_getElem? mw_87))) (tin_2 (List.mem_of_getElem? mw_88))) (tin_3 (List.mem_of_getElem? mw_89))) (tin_3 (List.mem_of_getElem? mw_90))) (tin_3 (List.mem_of_getElem? mw_91))) (tin_5 (List.mem_of_getElem? mw_92))) (tin_2 (List.mem_of_getElem? mw_93))) (tin_4 (List.mem_of_getElem? mw_94))) (tin_4 (List.mem_of_getElem? mw_95))) (tin_4 (List.mem_of_getElem? mw_96))) (tin_5 (List.mem_of_getElem? mw_97))) (tin_4 (List.mem_of_getElem? mw_98))) (tin_4 (List.mem_of_getElem? mw_99))) (tin_4 (List.mem_of_getElem? mw_100))) (tin_5 (List.mem_of_getElem? mw_101))) (tin_5 (List.mem_of_getElem? mw_102))) (tin_5 (List.mem_of_getElem? mw_103))) (tin_5 (List.mem_of_getElem? mw_104))) (tin_5 (List.mem_of_getElem? mw_105))) (tin_5 (List.mem_of_getElem? mw_106))) (tin_5 (List.mem_of_getElem? mw_107))) (tin_5 (List.mem_of_getElem? mw_108))) (tin_5 (List.mem_of_getElem? mw_109))) (tin_1 (List.mem_of_getElem? mw_110))) (tin_2 (List.mem_of_getElem? mw_111))) (tin_2 (List.mem_of_getElem? mw_112))) (tin_2 (List.mem_of_getElem? mw_113))) (tin_3 (List.mem_of_getElem? mw_114))) (tin_3 (List.mem_of_getElem? mw_115))) (tin_3 (List.mem_of_getElem? mw_116))) (tin_3 (List.mem_of_getElem? mw_117))) (tin_3 (List.mem_of_getElem? mw_118))) (tin_3 (List.mem_of_getElem? mw_119))
set_option maxRecDepth 100000 in
theorem am_cw_120 : ∀ m, m < 160 → Jvm.Cond.code (am_y m) (am_bytes m) (am_maxL m) (am_rt m) ∈ lw_tbl := lt_s (i := 159) (lt_s (i := 158) (lt_s (i := 157) (lt_s (i := 156) (lt_s (i := 155) (lt_s (i := 154) (lt_s (i := 153) (lt_s (i := 152) (lt_s (i := 151) (lt_s (i := 150) (lt_s (i := 149) (lt_s (i := 148) (lt_s (i := 147) (lt_s (i := 146) (lt_s (i := 145) (lt_s (i := 144) (lt_s (i := 143) (lt_s (i := 142) (lt_s (i := 141) (lt_s (i := 140) (lt_s (i := 139) (lt_s (i := 138) (lt_s (i := 137) (lt_s (i := 136) (lt_s (i := 135) (lt_s (i := 134) (lt_s (i := 133) (lt_s (i := 132) (lt_s (i := 131) (lt_s (i := 130) (lt_s (i := 129) (lt_s (i := 128) (lt_s (i := 127) (lt_s (i := 126) (lt_s (i := 125) (lt_s (i := 124) (lt_s (i := 123) (lt_s (i := 122) (lt_s (i := 121) (lt_s (i := 120) (am_cw_80) (tin_4 (List.mem_of_getElem? mw_120))) (tin_4 (List.mem_of_getElem? mw_121))) (tin_4 (List.mem_of_getElem? mw_122))) (tin_4 (List.mem_of_getElem? mw_123))) (tin_4 (List.mem_of_getElem? mw_124))) (tin_4 (List.mem_of_getElem? mw_125))) (tin_4 (List.mem_of_getElem? mw_126))) (tin_4 (List.mem_of_getElem? mw_127))) (tin_4 (List.mem_of_getElem? mw_128))) (tin_4 (List.mem_of_getElem? mw_129))) (tin_4 (List.mem_of_getElem? mw_130))) (tin_5 (List.mem_of_getElem? mw_131))) (tin_5 (List.mem_of_getElem? mw_132))) (tin_5 (List.mem_of_getElem? mw_133))) (tin_5 (List.mem_of_getElem? mw_134))) (tin_5 (List.mem_of_getElem? mw_135))) (tin_5 (List.mem_of_getElem? mw_136))) (tin_5 (List.mem_of_getElem? mw_137))) (tin_5 (List.mem_of_getElem? mw_138))) (tin_5 (List.mem_of_getElem? mw_139))) (tin_3 (List.mem_of_getElem? mw_140))) (tin_4 (List.mem_of_getElem? mw_141))) (tin_4 (List.mem_of_getElem? mw_142))) (tin_4 (List.mem_of_getElem? mw_143))) (tin_4 (List.mem_of_getElem? mw_144))) (tin_5 (List.mem_of_getElem? mw_145))) (tin_5 (List.mem_of_getElem? mw_146))) (tin_5 (List.mem_of_getElem? mw_147))) (tin_5 (List.mem_of_getElem? mw_148))) (tin_5 (List.mem_of_getElem? mw_149))) (tin_5 (List.mem_of_getElem? mw_150))) (tin_5 (List.mem_of_getElem? mw_151))) (tin_5 (List.mem_of_getElem? mw_152))) (tin_5 (List.mem_of_getElem? mw_153))) (tin_5 (List.mem_of_getElem? mw_154))) (tin_6 (List.mem_of_getElem? mw_155))) (tin_6 (List.mem_of_getElem? mw_156))) (tin_7 (List.mem_of_getElem? mw_157))) (tin_8 (List.mem_of_getElem? mw_158))) (tin_8 (List.mem_of_getElem? mw_159))
set_option maxRecDepth 100000 in
theorem am_cw_160 : ∀ m, m < 200 → Jvm.Cond.code (am_y m) (am_bytes m) (am_maxL m) (am_rt m) ∈ lw_tbl := lt_s (i := 199) (lt_s (i := 198) (lt_s (i := 197) (lt_s (i := 196) (lt_s (i := 195) (lt_s (i := 194) (lt_s (i := 193) (lt_s (i := 192) (lt_s (i := 191) (lt_s (i := 190) (lt_s (i := 189) (lt_s (i := 188) (lt_s (i := 187) (lt_s (i := 186) (lt_s (i := 185) (lt_s (i := 184) (lt_s (i := 183) (lt_s (i := 182) (lt_s (i := 181) (lt_s (i := 180) (lt_s (i := 179) (lt_s (i := 178) (lt_s (i := 177) (lt_s (i := 176) (lt_s (i := 175) (lt_s (i := 174) (lt_s (i := 173) (lt_s (i := 172) (lt_s (i := 171) (lt_s (i := 170) (lt_s (i := 169) (lt_s (i := 168) (lt_s (i := 167) (lt_s (i := 166) (lt_s (i := 165) (lt_s (i := 164) (lt_s (i := 163) (lt_s (i := 162) (lt_s (i := 161) (lt_s (i := 160) (am_cw_120) (tin_6 (List.mem_of_getElem? mw_160))) (tin_6 (List.mem_of_getElem? mw_161))) (tin_6 (List.mem_of_getElem? mw_162))) (tin_6 (List.mem_of_getElem? mw_163))) (tin_6 (List.mem_of_getElem? mw_164))) (tin_6 (List.mem_of_getElem? mw_165))) (tin_6 (List.mem_of_getElem? mw_166))) (tin_6 (List.mem_of_getElem? mw_167))) (tin_6 (List.mem_of_getElem? mw_168))) (tin_6 (List.mem_of_getElem? mw_169))) (tin_6 (List.mem_of_getElem? mw_170))) (tin_6 (List.mem_of_getElem? mw_171))) (tin_6 (List.mem_of_getElem? mw_172))) (tin_6 (List.mem_of_getElem? mw_173))) (tin_6 (List.mem_of_getElem? mw_174))) (tin_6 (List.mem_of_getElem? mw_175))) (tin_6 (List.mem_of_getElem? mw_176))) (tin_6 (List.mem_of_getElem? mw_177))) (tin_6 (List.mem_of_getElem? mw_178))) (tin_6 (List.mem_of_getElem? mw_179))) (tin_6 (List.mem_of_getElem? mw_180))) (tin_6 (List.mem_of_getElem? mw_181))) (tin_6 (List.mem_of_getElem? mw_182))) (tin_6 (List.mem_of_getElem? mw_183))) (tin_6 (List.mem_of_getElem? mw_184))) (tin_6 (List.mem_of_getElem? mw_185))) (tin_6 (List.mem_of_getElem? mw_186))) (tin_6 (List.mem_of_getElem? mw_187))) (tin_6 (List.mem_of_getElem? mw_188))) (tin_6 (List.mem_of_getElem? mw_189))) (tin_6 (List.mem_of_getElem? mw_190))) (tin_6 (List.mem_of_getElem? mw_191))) (tin_6 (List.mem_of_getElem? mw_192))) (tin_6 (List.mem_of_getElem? mw_193))) (tin_6 (List.mem_of_getElem? mw_194))) (tin_7 (List.mem_of_getElem? mw_195))) (tin_6 (List.mem_of_getElem? mw_196))) (tin_7 (List.mem_of_getElem? mw_197))) (tin_6 (List.mem_of_getElem? mw_198))) (tin_6 (List.mem_of_getElem? mw_199))
set_option maxRecDepth 100000 in
theorem am_cw_200 : ∀ m, m < 240 → Jvm.Cond.code (am_y m) (am_bytes m) (am_maxL m) (am_rt m) ∈ lw_tbl := lt_s (i := 239) (lt_s (i := 238) (lt_s (i := 237) (lt_s (i := 236) (lt_s (i := 235) (lt_s (i := 234) (lt_s (i := 233) (lt_s (i := 232) (lt_s (i := 231) (lt_s (i := 230) (lt_s (i := 229) (lt_s (i := 228) (lt_s (i := 227) (lt_s (i := 226) (lt_s (i := 225) (lt_s (i := 224) (lt_s (i := 223) (lt_s (i := 222) (lt_s (i := 221) (lt_s (i := 220) (lt_s (i := 219) (lt_s (i := 218) (lt_s (i := 217) (lt_s (i := 216) (lt_s (i := 215) (lt_s (i := 214) (lt_s (i := 213) (lt_s (i := 212) (lt_s (i := 211) (lt_s (i := 210) (lt_s (i := 209) (lt_s (i := 208) (lt_s (i := 207) (lt_s (i := 206) (lt_s (i := 205) (lt_s (i := 204) (lt_s (i := 203) (lt_s (i := 202) (lt_s (i := 201) (lt_s (i := 200) (am_cw_160) (tin_6 (List.mem_of_getElem? mw_200))) (tin_6 (List.mem_of_getElem? mw_201))) (tin_6 (List.mem_of_getElem? mw_202))) (tin_7 (List.mem_of_getElem? mw_203))) (tin_7 (List.mem_of_getElem? mw_204))) (tin_6 (List.mem_of_getElem? mw_205))) (tin_7 (List.mem_of_getElem? mw_206))) (tin_7 (List.mem_of_getElem? mw_207))) (tin_7 (List.mem_of_getElem? mw_208))) (tin_7 (List.mem_of_getElem? mw_209))) (tin_7 (List.mem_of_getElem? mw_210))) (tin_7 (List.mem_of_getElem? mw_211))) (tin_7 (List.mem_of_getElem? mw_212))) (tin_7 (List.mem_of_getElem? mw_213))) (tin_7 (List.mem_of_getElem? mw_214))) (tin_7 (List.mem_of_getElem? mw_215))) (tin_7 (List.mem_of_getElem? mw_216))) (tin_7 (List.mem_of_getElem? mw_217))) (tin_7 (List.mem_of_getElem? mw_218))) (tin_7 (List.mem_of_getElem? mw_219))) (tin_7 (List.mem_of_getElem? mw_220))) (tin_7 (List.mem_of_getElem? mw_221))) (tin_7 (List.mem_of_getElem? mw_222))) (tin_7 (List.mem_of_getElem? mw_223))) (tin_7 (List.mem_of_getElem? mw_224))) (tin_7 (List.mem_of_getElem? mw_225))) (tin_7 (List.mem_of_getElem? mw_226))) (tin_7 (List.mem_of_getElem? mw_227))) (tin_7 (List.mem_of_getElem? mw_228))) (tin_7 (List.mem_of_getElem? mw_229))) (tin_7 (List.mem_of_getElem? mw_230))) (tin_7 (List.mem_of_getElem? mw_231))) (tin_7 (List.mem_of_getElem? mw_232))) (tin_7 (List.mem_of_getElem? mw_233))) (tin_7 (List.mem_of_getElem? mw_234))) (tin_7 (List.mem_of_getElem? mw_235))) (tin_7 (List.mem_of_getElem? mw_236))) (tin_7 (List.mem_of_getElem? mw_237))) (tin_7 (List.mem_of_getElem? mw_238))) (tin_7 (List.mem_of_getElem? mw_239))
set_option maxRecDepth 100000 in
theorem am_cw_240 : ∀ m, m < 272 → Jvm.Cond.code (am_y m) (am_bytes m) (am_maxL m) (am_rt m) ∈ lw_tbl := lt_s (i := 271) (lt_s (i := 270) (lt_s (i := 269) (lt_s (i := 268) (lt_s (i := 267) (lt_s (i := 266) (lt_s (i := 265) (lt_s (i := 264) (lt_s (i := 263) (lt_s (i := 262) (lt_s (i := 261) (lt_s (i := 260) (lt_s (i := 259) (lt_s (i := 258) (lt_s (i := 257) (lt_s (i := 256) (lt_s (i := 255) (lt_s (i := 254) (lt_s (i := 253) (lt_s (i := 252) (lt_s (i := 251) (lt_s (i := 250) (lt_s (i := 249) (lt_s (i := 248) (lt_s (i := 247) (lt_s (i := 246) (lt_s (i := 245) (lt_s (i := 244) (lt_s (i := 243) (lt_s (i := 242) (lt_s (i := 241) (lt_s (i := 240) (am_cw_200) (tin_7 (List.mem_of_getElem? mw_240))) (tin_7 (List.mem_of_getElem? mw_241))) (tin_7 (List.mem_of_getElem? mw_242))) (tin_7 (List.mem_of_getElem? mw_243))) (tin_7 (List.mem_of_getElem? mw_244))) (tin_7 (List.mem_of_getElem? mw_245))) (tin_7 (List.mem_of_getElem? mw_246))) (tin_7 (List.mem_of_getElem? mw_247))) (tin_7 (List.mem_of_getElem? mw_248))) (tin_7 (List.mem_of_getElem? mw_249))) (tin_7 (List.mem_of_getElem? mw_250))) (tin_7 (List.mem_of_getElem? mw_251))) (tin_7 (List.mem_of_getElem? mw_252))) (tin_7 (List.mem_of_getElem? mw_253))) (tin_7 (List.mem_of_getElem? mw_254))) (tin_7 (List.mem_of_getElem? mw_255))) (tin_7 (List.mem_of_getElem? mw_256))) (tin_7 (List.mem_of_getElem? mw_257))) (tin_7 (List.mem_of_getElem? mw_258))) (tin_7 (List.mem_of_getElem? mw_259))) (tin_7 (List.mem_of_getElem? mw_260))) (tin_7 (List.mem_of_getElem? mw_261))) (tin_8 (List.mem_of_getElem? mw_262))) (tin_8 (List.mem_of_getElem? mw_263))) (tin_8 (List.mem_of_getElem? mw_264))) (tin_8 (List.mem_of_getElem? mw_265))) (tin_8 (List.mem_of_getElem? mw_266))) (tin_8 (List.mem_of_getElem? mw_267))) (tin_8 (List.mem_of_getElem? mw_268))) (tin_8 (List.mem_of_getElem? mw_269))) (tin_8 (List.mem_of_getElem? mw_270))) (tin_2 (List.mem_of_getElem? mw_271))
theorem am_cw : ∀ m, m < 272 → Jvm.Cond.code (am_y m) (am_bytes m) (am_maxL m) (am_rt m) ∈ lw_tbl := am_cw_240
