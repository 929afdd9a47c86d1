theorem dL_law_1186 : decode cL_law 1186 = .ok (.aload_n 1, 1) := by decide +kernel
theorem dL_law_1187 : decode cL_law 1187 = .ok (.aload_n 0, 1) := by decide +kernel
theorem dL_law_1188 : decode cL_law 1188 = .ok (.iload_n 3, 1) := by decide +kernel
theorem dL_law_1189 : decode cL_law 1189 = .ok (.iconst 1, 1) := by decide +kernel
theorem dL_law_1190 : decode cL_law 1190 = .ok (.iadd, 1) := by decide +kernel
theorem dL_law_1191 : decode cL_law 1191 = .ok (.iaload, 1) := by decide +kernel
theorem dL_law_1192 : decode cL_law 1192 = .ok (.aload_n 0, 1) := by decide +kernel
theorem dL_law_1193 : decode cL_law 1193 = .ok (.iload_n 3, 1) := by decide +kernel
theorem dL_law_1194 : decode cL_law 1194 = .ok (.iconst 2, 1) := by decide +kernel
theorem dL_law_1195 : decode cL_law 1195 = .ok (.iadd, 1) := by decide +kernel
theorem dL_law_1196 : decode cL_law 1196 = .ok (.iaload, 1) := by decide +kernel
theorem dL_law_1197 : decode cL_law 1197 = .ok (.aload_n 0, 1) := by decide +kernel
theorem dL_law_1198 : decode cL_law 1198 = .ok (.iload_n 3, 1) := by decide +kernel
theorem dL_law_1199 : decode cL_law 1199 = .ok (.iconst 3, 1) := by decide +kernel
theorem dL_law_1200 : decode cL_law 1200 = .ok (.iadd, 1) := by decide +kernel
theorem dL_law_1201 : decode cL_law 1201 = .ok (.iaload, 1) := by decide +kernel
theorem dL_law_1202 : decode cL_law 1202 = .ok (.invokevirtual 150, 3) := by decide +kernel
theorem dL_law_1205 : decode cL_law 1205 = .ok (.aload_n 2, 1) := by decide +kernel
theorem dL_law_1206 : decode cL_law 1206 = .ok (.aload_n 0, 1) := by decide +kernel
theorem dL_law_1207 : decode cL_law 1207 = .ok (.iload_n 3, 1) := by decide +kernel
theorem dL_law_1208 : decode cL_law 1208 = .ok (.iconst 1, 1) := by decide +kernel
theorem dL_law_1209 : decode cL_law 1209 = .ok (.iadd, 1) := by decide +kernel
theorem dL_law_1210 : decode cL_law 1210 = .ok (.iaload, 1) := by decide +kernel
theorem dL_law_1211 : decode cL_law 1211 = .ok (.aload_n 0, 1) := by decide +kernel
theorem dL_law_1212 : decode cL_law 1212 = .ok (.iload_n 3, 1) := by decide +kernel
theorem dL_law_1213 : decode cL_law 1213 = .ok (.iconst 2, 1) := by decide +kernel
theorem dL_law_1214 : decode cL_law 1214 = .ok (.iadd, 1) := by decide +kernel
theorem dL_law_1215 : decode cL_law 1215 = .ok (.iaload, 1) := by decide +kernel
theorem dL_law_1216 : decode cL_law 1216 = .ok (.aload_n 0, 1) := by decide +kernel
theorem dL_law_1217 : decode cL_law 1217 = .ok (.iload_n 3, 1) := by decide +kernel
theorem dL_law_1218 : decode cL_law 1218 = .ok (.iconst 3, 1) := by decide +kernel
theorem dL_law_1219 : decode cL_law 1219 = .ok (.iadd, 1) := by decide +kernel
theorem dL_law_1220 : decode cL_law 1220 = .ok (.iaload, 1) := by decide +kernel
theorem dL_law_1221 : decode cL_law 1221 = .ok (.invokevirtual 153, 3) := by decide +kernel
theorem dL_law_1224 : decode cL_law 1224 = .ok (.if_icmp .eq 74, 3) := by decide +kernel
theorem dL_law_1227 : decode cL_law 1227 = .ok (.iconst 0, 1) := by decide +kernel
theorem dL_law_1228 : decode cL_law 1228 = .ok (.ireturn, 1) := by decide +kernel
theorem dL_law_1229 : decode cL_law 1229 = .ok (.aload_n 1, 1) := by decide +kernel
theorem dL_law_1230 : decode cL_law 1230 = .ok (.aload_n 0, 1) := by decide +kernel
theorem dL_law_1231 : decode cL_law 1231 = .ok (.iload_n 3, 1) := by decide +kernel
theorem dL_law_1232 : decode cL_law 1232 = .ok (.iconst 1, 1) := by decide +kernel
theorem dL_law_1233 : decode cL_law 1233 = .ok (.iadd, 1) := by decide +kernel
theorem dL_law_1234 : decode cL_law 1234 = .ok (.iaload, 1) := by decide +kernel
theorem dL_law_1235 : decode cL_law 1235 = .ok (.invokevirtual 154, 3) := by decide +kernel
theorem dL_law_1238 : decode cL_law 1238 = .ok (.aload_n 2, 1) := by decide +kernel
theorem dL_law_1239 : decode cL_law 1239 = .ok (.aload_n 0, 1) := by decide +kernel
theorem dL_law_1240 : decode cL_law 1240 = .ok (.iload_n 3, 1) := by decide +kernel
theorem dL_law_1241 : decode cL_law 1241 = .ok (.iconst 1, 1) := by decide +kernel
theorem dL_law_1242 : decode cL_law 1242 = .ok (.iadd, 1) := by decide +kernel
theorem dL_law_1243 : decode cL_law 1243 = .ok (.iaload, 1) := by decide +kernel
theorem dL_law_1244 : decode cL_law 1244 = .ok (.invokevirtual 158, 3) := by decide +kernel
theorem dL_law_1247 : decode cL_law 1247 = .ok (.if_icmp .eq 51, 3) := by decide +kernel
theorem dL_law_1250 : decode cL_law 1250 = .ok (.iconst 0, 1) := by decide +kernel
theorem dL_law_1251 : decode cL_law 1251 = .ok (.ireturn, 1) := by decide +kernel
theorem dL_law_1252 : decode cL_law 1252 = .ok (.aload_n 1, 1) := by decide +kernel
theorem dL_law_1253 : decode cL_law 1253 = .ok (.aload_n 0, 1) := by decide +kernel
theorem dL_law_1254 : decode cL_law 1254 = .ok (.iload_n 3, 1) := by decide +kernel
theorem dL_law_1255 : decode cL_law 1255 = .ok (.iconst 1, 1) := by decide +kernel
theorem dL_law_1256 : decode cL_law 1256 = .ok (.iadd, 1) := by decide +kernel
theorem dL_law_1257 : decode cL_law 1257 = .ok (.iaload, 1) := by decide +kernel
theorem dL_law_1258 : decode cL_law 1258 = .ok (.invokevirtual 159, 3) := by decide +kernel
theorem dL_law_1261 : decode cL_law 1261 = .ok (.aload_n 2, 1) := by decide +kernel
theorem dL_law_1262 : decode cL_law 1262 = .ok (.aload_n 0, 1) := by decide +kernel
theorem dL_law_1263 : decode cL_law 1263 = .ok (.iload_n 3, 1) := by decide +kernel
theorem dL_law_1264 : decode cL_law 1264 = .ok (.iconst 1, 1) := by decide +kernel
theorem dL_law_1265 : decode cL_law 1265 = .ok (.iadd, 1) := by decide +kernel
theorem dL_law_1266 : decode cL_law 1266 = .ok (.iaload, 1) := by decide +kernel
theorem dL_law_1267 : decode cL_law 1267 = .ok (.invokevirtual 162, 3) := by decide +kernel
theorem dL_law_1270 : decode cL_law 1270 = .ok (.if_icmp .eq 28, 3) := by decide +kernel
theorem dL_law_1273 : decode cL_law 1273 = .ok (.iconst 0, 1) := by decide +kernel
theorem dL_law_1274 : decode cL_law 1274 = .ok (.ireturn, 1) := by decide +kernel
theorem dL_law_1275 : decode cL_law 1275 = .ok (.aload_n 1, 1) := by decide +kernel
theorem dL_law_1276 : decode cL_law 1276 = .ok (.aload_n 0, 1) := by decide +kernel
theorem dL_law_1277 : decode cL_law 1277 = .ok (.iload_n 3, 1) := by decide +kernel
theorem dL_law_1278 : decode cL_law 1278 = .ok (.iconst 1, 1) := by decide +kernel
theorem dL_law_1279 : decode cL_law 1279 = .ok (.iadd, 1) := by decide +kernel
theorem dL_law_1280 : decode cL_law 1280 = .ok (.iaload, 1) := by decide +kernel
theorem dL_law_1281 : decode cL_law 1281 = .ok (.invokevirtual 163, 3) := by decide +kernel
theorem dL_law_1284 : decode cL_law 1284 = .ok (.aload_n 2, 1) := by decide +kernel
theorem dL_law_1285 : decode cL_law 1285 = .ok (.aload_n 0, 1) := by decide +kernel
theorem dL_law_1286 : decode cL_law 1286 = .ok (.iload_n 3, 1) := by decide +kernel
theorem dL_law_1287 : decode cL_law 1287 = .ok (.iconst 1, 1) := by decide +kernel
theorem dL_law_1288 : decode cL_law 1288 = .ok (.iadd, 1) := by decide +kernel
theorem dL_law_1289 : decode cL_law 1289 = .ok (.iaload, 1) := by decide +kernel
theorem dL_law_1290 : decode cL_law 1290 = .ok (.invokevirtual 166, 3) := by decide +kernel
theorem dL_law_1293 : decode cL_law 1293 = .ok (.if_icmp .eq 5, 3) := by decide +kernel
theorem dL_law_1296 : decode cL_law 1296 = .ok (.iconst 0, 1) := by decide +kernel
theorem dL_law_1297 : decode cL_law 1297 = .ok (.ireturn, 1) := by decide +kernel
theorem dL_law_1298 : decode cL_law 1298 = .ok (.iinc 3 6, 3) := by decide +kernel
theorem dL_law_1301 : decode cL_law 1301 = .ok (.goto (-1283), 3) := by decide +kernel
theorem dL_law_1304 : decode cL_law 1304 = .ok (.iconst 1, 1) := by decide +kernel
theorem dL_law_1305 : decode cL_law 1305 = .ok (.ireturn, 1) := by decide +kernel
theorem mv_RL_101 : MV RL 101 8 yX8_inPlace cX8_inPlace 6 (some .int) 2 := MV.mk RX8 TX8 66 rfl (by decide) (lg_at 1676 (by decide +kernel) rfl) (lg_at 1677 (by decide +kernel) rfl) (lg_at 1678 (by decide +kernel) rfl) (lg_at 118 (by decide +kernel) rfl) (lg_at 1679 (by decide +kernel) rfl) (by decide +kernel) (by decide)
theorem mv_RL_102 : MV RL 102 7 yX7_smelt cX7_smelt 4 (some .int) 2 := MV.mk RX7 TX7 10 rfl (by decide) (lg_at 989 (by decide +kernel) rfl) (lg_at 990 (by decide +kernel) rfl) (lg_at 991 (by decide +kernel) rfl) (lg_at 109 (by decide +kernel) rfl) (lg_at 992 (by decide +kernel) rfl) (by decide +kernel) (by decide)
theorem mv_RL_105 : MV RL 105 8 yX8_smelt cX8_smelt 4 (some .int) 2 := MV.mk RX8 TX8 66 rfl (by decide) (lg_at 1684 (by decide +kernel) rfl) (lg_at 1685 (by decide +kernel) rfl) (lg_at 1686 (by decide +kernel) rfl) (lg_at 118 (by decide +kernel) rfl) (lg_at 1687 (by decide +kernel) rfl) (by decide +kernel) (by decide)
theorem mv_RL_106 : MV RL 106 7 yX7_bare cX7_bare 4 (some .int) 1 := MV.mk RX7 TX7 10 rfl (by decide) (lg_at 997 (by decide +kernel) rfl) (lg_at 998 (by decide +kernel) rfl) (lg_at 999 (by decide +kernel) rfl) (lg_at 109 (by decide +kernel) rfl) (lg_at 1000 (by decide +kernel) rfl) (by decide +kernel) (by decide)
theorem mv_RL_109 : MV RL 109 8 yX8_bare cX8_bare 4 (some .int) 1 := MV.mk RX8 TX8 66 rfl (by decide) (lg_at 1688 (by decide +kernel) rfl) (lg_at 1689 (by decide +kernel) rfl) (lg_at 1690 (by decide +kernel) rfl) (lg_at 118 (by decide +kernel) rfl) (lg_at 1691 (by decide +kernel) rfl) (by decide +kernel) (by decide)
theorem mv_RL_110 : MV RL 110 7 yX7_met cX7_met 6 (some .int) 3 := MV.mk RX7 TX7 10 rfl (by decide) (lg_at 1001 (by decide +kernel) rfl) (lg_at 1002 (by decide +kernel) rfl) (lg_at 1003 (by decide +kernel) rfl) (lg_at 109 (by decide +kernel) rfl) (lg_at 1004 (by decide +kernel) rfl) (by decide +kernel) (by decide)
theorem mv_RL_113 : MV RL 113 8 yX8_met cX8_met 6 (some .int) 3 := MV.mk RX8 TX8 66 rfl (by decide) (lg_at 1696 (by decide +kernel) rfl) (lg_at 1697 (by decide +kernel) rfl) (lg_at 1698 (by decide +kernel) rfl) (lg_at 118 (by decide +kernel) rfl) (lg_at 1699 (by decide +kernel) rfl) (by decide +kernel) (by decide)
theorem mv_RL_114 : MV RL 114 7 yX7_leader cX7_leader 2 (some .int) 1 := MV.mk RX7 TX7 10 rfl (by decide) (lg_at 1010 (by decide +kernel) rfl) (lg_at 1011 (by decide +kernel) rfl) (lg_at 1012 (by decide +kernel) rfl) (lg_at 109 (by decide +kernel) rfl) (lg_at 1013 (by decide +kernel) rfl) (by decide +kernel) (by decide)
theorem mv_RL_117 : MV RL 117 8 yX8_leader cX8_leader 2 (some .int) 1 := MV.mk RX8 TX8 66 rfl (by decide) (lg_at 1700 (by decide +kernel) rfl) (lg_at 1701 (by decide +kernel) rfl) (lg_at 1702 (by decide +kernel) rfl) (lg_at 118 (by decide +kernel) rfl) (lg_at 1703 (by decide +kernel) rfl) (by decide +kernel) (by decide)
theorem mv_RL_118 : MV RL 118 7 yX7_cover cX7_cover 8 (some .int) 1 := MV.mk RX7 TX7 10 rfl (by decide) (lg_at 1014 (by decide +kernel) rfl) (lg_at 1015 (by decide +kernel) rfl) (lg_at 1016 (by decide +kernel) rfl) (lg_at 109 (by decide +kernel) rfl) (lg_at 1017 (by decide +kernel) rfl) (by decide +kernel) (by decide)
theorem mv_RL_121 : MV RL 121 8 yX8_cover cX8_cover 5 (some .int) 1 := MV.mk RX8 TX8 66 rfl (by decide) (lg_at 1704 (by decide +kernel) rfl) (lg_at 1705 (by decide +kernel) rfl) (lg_at 1706 (by decide +kernel) rfl) (lg_at 118 (by decide +kernel) rfl) (lg_at 1707 (by decide +kernel) rfl) (by decide +kernel) (by decide)
theorem mv_RL_122 : MV RL 122 7 yX7_out cX7_out 3 (some .int) 2 := MV.mk RX7 TX7 10 rfl (by decide) (lg_at 1033 (by decide +kernel) rfl) (lg_at 1034 (by decide +kernel) rfl) (lg_at 1035 (by decide +kernel) rfl) (lg_at 109 (by decide +kernel) rfl) (lg_at 1036 (by decide +kernel) rfl) (by decide +kernel) (by decide)
theorem mv_RL_125 : MV RL 125 8 yX8_out cX8_out 6 (some .int) 2 := MV.mk RX8 TX8 66 rfl (by decide) (lg_at 1712 (by decide +kernel) rfl) (lg_at 1713 (by decide +kernel) rfl) (lg_at 1714 (by decide +kernel) rfl) (lg_at 118 (by decide +kernel) rfl) (lg_at 1715 (by decide +kernel) rfl) (by decide +kernel) (by decide)
theorem mv_RL_126 : MV RL 126 7 yX7_odds cX7_odds 6 (some .int) 3 := MV.mk RX7 TX7 10 rfl (by decide) (lg_at 1058 (by decide +kernel) rfl) (lg_at 1059 (by decide +kernel) rfl) (lg_at 1060 (by decide +kernel) rfl) (lg_at 109 (by decide +kernel) rfl) (lg_at 1061 (by decide +kernel) rfl) (by decide +kernel) (by decide)
theorem mv_RL_129 : MV RL 129 8 yX8_odds cX8_odds 6 (some .int) 3 := MV.mk RX8 TX8 66 rfl (by decide) (lg_at 1728 (by decide +kernel) rfl) (lg_at 1729 (by decide +kernel) rfl) (lg_at 1730 (by decide +kernel) rfl) (lg_at 118 (by decide +kernel) rfl) (lg_at 1731 (by decide +kernel) rfl) (by decide +kernel) (by decide)
theorem mv_RL_13 : MV RL 13 7 yX7_feed cX7_feed 6 (some .int) 5 := MV.mk RX7 TX7 10 rfl (by decide) (lg_at 439 (by decide +kernel) rfl) (lg_at 440 (by decide +kernel) rfl) (lg_at 441 (by decide +kernel) rfl) (lg_at 109 (by decide +kernel) rfl) (lg_at 442 (by decide +kernel) rfl) (by decide +kernel) (by decide)
theorem mv_RL_130 : MV RL 130 7 yX7_lost cX7_lost 4 (some .int) 1 := MV.mk RX7 TX7 10 rfl (by decide) (lg_at 1062 (by decide +kernel) rfl) (lg_at 1063 (by decide +kernel) rfl) (lg_at 1064 (by decide +kernel) rfl) (lg_at 109 (by decide +kernel) rfl) (lg_at 1065 (by decide +kernel) rfl) (by decide +kernel) (by decide)
theorem mv_RL_133 : MV RL 133 8 yX8_lost cX8_lost 5 (some .int) 1 := MV.mk RX8 TX8 66 rfl (by decide) (lg_at 1732 (by decide +kernel) rfl) (lg_at 1733 (by decide +kernel) rfl) (lg_at 1734 (by decide +kernel) rfl) (lg_at 118 (by decide +kernel) rfl) (lg_at 1735 (by decide +kernel) rfl) (by decide +kernel) (by decide)
theorem mv_RL_134 : MV RL 134 7 yX7_tell cX7_tell 3 (some .int) 2 := MV.mk RX7 TX7 10 rfl (by decide) (lg_at 1067 (by decide +kernel) rfl) (lg_at 1068 (by decide +kernel) rfl) (lg_at 1069 (by decide +kernel) rfl) (lg_at 109 (by decide +kernel) rfl) (lg_at 1070 (by decide +kernel) rfl) (by decide +kernel) (by decide)
theorem mv_RL_137 : MV RL 137 8 yX8_tell cX8_tell 3 (some .int) 2 := MV.mk RX8 TX8 66 rfl (by decide) (lg_at 1736 (by decide +kernel) rfl) (lg_at 1737 (by decide +kernel) rfl) (lg_at 1738 (by decide +kernel) rfl) (lg_at 118 (by decide +kernel) rfl) (lg_at 1739 (by decide +kernel) rfl) (by decide +kernel) (by decide)
theorem mv_RL_138 : MV RL 138 7 yX7_forget cX7_forget 2 (some .int) 0 := MV.mk RX7 TX7 10 rfl (by decide) (lg_at 1075 (by decide +kernel) rfl) (lg_at 1076 (by decide +kernel) rfl) (lg_at 1077 (by decide +kernel) rfl) (lg_at 109 (by decide +kernel) rfl) (lg_at 1078 (by decide +kernel) rfl) (by decide +kernel) (by decide)
theorem mv_RL_141 : MV RL 141 8 yX8_forget cX8_forget 2 (some .int) 0 := MV.mk RX8 TX8 66 rfl (by decide) (lg_at 1740 (by decide +kernel) rfl) (lg_at 1741 (by decide +kernel) rfl) (lg_at 1742 (by decide +kernel) rfl) (lg_at 118 (by decide +kernel) rfl) (lg_at 1743 (by decide +kernel) rfl) (by decide +kernel) (by decide)
theorem mv_RL_142 : MV RL 142 7 yX7_fried cX7_fried 2 (some .int) 1 := MV.mk RX7 TX7 10 rfl (by decide) (lg_at 1079 (by decide +kernel) rfl) (lg_at 1080 (by decide +kernel) rfl) (lg_at 1081 (by decide +kernel) rfl) (lg_at 109 (by decide +kernel) rfl) (lg_at 1082 (by decide +kernel) rfl) (by decide +kernel) (by decide)
theorem mv_RL_145 : MV RL 145 8 yX8_fried cX8_fried 4 (some .int) 1 := MV.mk RX8 TX8 66 rfl (by decide) (lg_at 1744 (by decide +kernel) rfl) (lg_at 1745 (by decide +kernel) rfl) (lg_at 1746 (by decide +kernel) rfl) (lg_at 118 (by decide +kernel) rfl) (lg_at 1747 (by decide +kernel) rfl) (by decide +kernel) (by decide)
theorem mv_RL_146 : MV RL 146 7 yX7_sure cX7_sure 3 (some .int) 2 := MV.mk RX7 TX7 10 rfl (by decide) (lg_at 1093 (by decide +kernel) rfl) (lg_at 1094 (by decide +kernel) rfl) (lg_at 1095 (by decide +kernel) rfl) (lg_at 109 (by decide +kernel) rfl) (lg_at 1096 (by decide +kernel) rfl) (by decide +kernel) (by decide)
theorem mv_RL_149 : MV RL 149 8 yX8_sure cX8_sure 6 (some .int) 2 := MV.mk RX8 TX8 66 rfl (by decide) (lg_at 1759 (by decide +kernel) rfl) (lg_at 1760 (by decide +kernel) rfl) (lg_at 1761 (by decide +kernel) rfl) (lg_at 118 (by decide +kernel) rfl) (lg_at 1762 (by decide +kernel) rfl) (by decide +kernel) (by decide)
theorem mv_RL_150 : MV RL 150 7 yX7_rock cX7_rock 6 (some .int) 3 := MV.mk RX7 TX7 10 rfl (by decide) (lg_at 1102 (by decide +kernel) rfl) (lg_at 1103 (by decide +kernel) rfl) (lg_at 1104 (by decide +kernel) rfl) (lg_at 109 (by decide +kernel) rfl) (lg_at 1105 (by decide +kernel) rfl) (by decide +kernel) (by decide)
theorem mv_RL_153 : MV RL 153 8 yX8_rock cX8_rock 6 (some .int) 3 := MV.mk RX8 TX8 66 rfl (by decide) (lg_at 1763 (by decide +kernel) rfl) (lg_at 1764 (by decide +kernel) rfl) (lg_at 1765 (by decide +kernel) rfl) (lg_at 118 (by decide +kernel) rfl) (lg_at 1766 (by decide +kernel) rfl) (by decide +kernel) (by decide)
theorem mv_RL_154 : MV RL 154 7 yX7_hold cX7_hold 2 (some .boolean) 1 := MV.mk RX7 TX7 10 rfl (by decide) (lg_at 1116 (by decide +kernel) rfl) (lg_at 1117 (by decide +kernel) rfl) (lg_at 1118 (by decide +kernel) rfl) (lg_at 109 (by decide +kernel) rfl) (lg_at 1119 (by decide +kernel) rfl) (by decide +kernel) (by decide)
theorem mv_RL_158 : MV RL 158 8 yX8_hold cX8_hold 3 (some .boolean) 1 := MV.mk RX8 TX8 66 rfl (by decide) (lg_at 1771 (by decide +kernel) rfl) (lg_at 1772 (by decide +kernel) rfl) (lg_at 1773 (by decide +kernel) rfl) (lg_at 118 (by decide +kernel) rfl) (lg_at 1774 (by decide +kernel) rfl) (by decide +kernel) (by decide)
theorem mv_RL_159 : MV RL 159 7 yX7_restore cX7_restore 2 (some .boolean) 1 := MV.mk RX7 TX7 10 rfl (by decide) (lg_at 1120 (by decide +kernel) rfl) (lg_at 1121 (by decide +kernel) rfl) (lg_at 1122 (by decide +kernel) rfl) (lg_at 109 (by decide +kernel) rfl) (lg_at 1123 (by decide +kernel) rfl) (by decide +kernel) (by decide)
theorem mv_RL_162 : MV RL 162 8 yX8_restore cX8_restore 3 (some .boolean) 1 := MV.mk RX8 TX8 66 rfl (by decide) (lg_at 1775 (by decide +kernel) rfl) (lg_at 1776 (by decide +kernel) rfl) (lg_at 1777 (by decide +kernel) rfl) (lg_at 118 (by decide +kernel) rfl) (lg_at 1778 (by decide +kernel) rfl) (by decide +kernel) (by decide)
theorem mv_RL_163 : MV RL 163 7 yX7_count cX7_count 2 (some .int) 1 := MV.mk RX7 TX7 10 rfl (by decide) (lg_at 1124 (by decide +kernel) rfl) (lg_at 1125 (by decide +kernel) rfl) (lg_at 1126 (by decide +kernel) rfl) (lg_at 109 (by decide +kernel) rfl) (lg_at 1127 (by decide +kernel) rfl) (by decide +kernel) (by decide)
theorem mv_RL_166 : MV RL 166 8 yX8_count cX8_count 4 (some .int) 1 := MV.mk RX8 TX8 66 rfl (by decide) (lg_at 1779 (by decide +kernel) rfl) (lg_at 1780 (by decide +kernel) rfl) (lg_at 1781 (by decide +kernel) rfl) (lg_at 118 (by decide +kernel) rfl) (lg_at 1782 (by decide +kernel) rfl) (by decide +kernel) (by decide)
theorem mv_RL_17 : MV RL 17 8 yX8_feed cX8_feed 6 (some .int) 5 := MV.mk RX8 TX8 66 rfl (by decide) (lg_at 1409 (by decide +kernel) rfl) (lg_at 1410 (by decide +kernel) rfl) (lg_at 1411 (by decide +kernel) rfl) (lg_at 118 (by decide +kernel) rfl) (lg_at 1412 (by decide +kernel) rfl) (by decide +kernel) (by decide)
theorem mv_RL_18 : MV RL 18 7 yX7_back cX7_back 2 (some .int) 1 := MV.mk RX7 TX7 10 rfl (by decide) (lg_at 447 (by decide +kernel) rfl) (lg_at 448 (by decide +kernel) rfl) (lg_at 449 (by decide +kernel) rfl) (lg_at 109 (by decide +kernel) rfl) (lg_at 450 (by decide +kernel) rfl) (by decide +kernel) (by decide)
theorem mv_RL_22 : MV RL 22 8 yX8_back cX8_back 2 (some .int) 1 := MV.mk RX8 TX8 66 rfl (by decide) (lg_at 1417 (by decide +kernel) rfl) (lg_at 1418 (by decide +kernel) rfl) (lg_at 1419 (by decide +kernel) rfl) (lg_at 118 (by decide +kernel) rfl) (lg_at 1420 (by decide +kernel) rfl) (by decide +kernel) (by decide)
theorem mv_RL_23 : MV RL 23 7 yX7_read cX7_read 2 (some .int) 0 := MV.mk RX7 TX7 10 rfl (by decide) (lg_at 451 (by decide +kernel) rfl) (lg_at 452 (by decide +kernel) rfl) (lg_at 453 (by decide +kernel) rfl) (lg_at 109 (by decide +kernel) rfl) (lg_at 454 (by decide +kernel) rfl) (by decide +kernel) (by decide)
theorem mv_RL_27 : MV RL 27 8 yX8_read cX8_read 2 (some .int) 0 := MV.mk RX8 TX8 66 rfl (by decide) (lg_at 1421 (by decide +kernel) rfl) (lg_at 1422 (by decide +kernel) rfl) (lg_at 1423 (by decide +kernel) rfl) (lg_at 118 (by decide +kernel) rfl) (lg_at 1424 (by decide +kernel) rfl) (by decide +kernel) (by decide)
theorem mv_RL_28 : MV RL 28 7 yX7_place cX7_place 1 (some .int) 0 := MV.mk RX7 TX7 10 rfl (by decide) (lg_at 755 (by decide +kernel) rfl) (lg_at 756 (by decide +kernel) rfl) (lg_at 757 (by decide +kernel) rfl) (lg_at 109 (by decide +kernel) rfl) (lg_at 758 (by decide +kernel) rfl) (by decide +kernel) (by decide)
theorem mv_RL_31 : MV RL 31 8 yX8_place cX8_place 1 (some .int) 0 := MV.mk RX8 TX8 66 rfl (by decide) (lg_at 1514 (by decide +kernel) rfl) (lg_at 1515 (by decide +kernel) rfl) (lg_at 1516 (by decide +kernel) rfl) (lg_at 118 (by decide +kernel) rfl) (lg_at 1517 (by decide +kernel) rfl) (by decide +kernel) (by decide)
theorem mv_RL_32 : MV RL 32 7 yX7_boat cX7_boat 3 (some .int) 2 := MV.mk RX7 TX7 10 rfl (by decide) (lg_at 759 (by decide +kernel) rfl) (lg_at 760 (by decide +kernel) rfl) (lg_at 761 (by decide +kernel) rfl) (lg_at 109 (by decide +kernel) rfl) (lg_at 762 (by decide +kernel) rfl) (by decide +kernel) (by decide)
theorem mv_RL_36 : MV RL 36 8 yX8_boat cX8_boat 3 (some .int) 2 := MV.mk RX8 TX8 66 rfl (by decide) (lg_at 1518 (by decide +kernel) rfl) (lg_at 1519 (by decide +kernel) rfl) (lg_at 1520 (by decide +kernel) rfl) (lg_at 118 (by decide +kernel) rfl) (lg_at 1521 (by decide +kernel) rfl) (by decide +kernel) (by decide)
theorem mv_RL_37 : MV RL 37 7 yX7_cell cX7_cell 5 (some .int) 3 := MV.mk RX7 TX7 10 rfl (by decide) (lg_at 829 (by decide +kernel) rfl) (lg_at 830 (by decide +kernel) rfl) (lg_at 831 (by decide +kernel) rfl) (lg_at 109 (by decide +kernel) rfl) (lg_at 832 (by decide +kernel) rfl) (by decide +kernel) (by decide)
theorem mv_RL_41 : MV RL 41 8 yX8_cell cX8_cell 6 (some .int) 3 := MV.mk RX8 TX8 66 rfl (by decide) (lg_at 1558 (by decide +kernel) rfl) (lg_at 1559 (by decide +kernel) rfl) (lg_at 1560 (by decide +kernel) rfl) (lg_at 118 (by decide +kernel) rfl) (lg_at 1561 (by decide +kernel) rfl) (by decide +kernel) (by decide)
theorem mv_RL_42 : MV RL 42 7 yX7_laid cX7_laid 6 (some .int) 4 := MV.mk RX7 TX7 10 rfl (by decide) (lg_at 844 (by decide +kernel) rfl) (lg_at 845 (by decide +kernel) rfl) (lg_at 846 (by decide +kernel) rfl) (lg_at 109 (by decide +kernel) rfl) (lg_at 847 (by decide +kernel) rfl) (by decide +kernel) (by decide)
theorem mv_RL_46 : MV RL 46 8 yX8_laid cX8_laid 5 (some .int) 4 := MV.mk RX8 TX8 66 rfl (by decide) (lg_at 1566 (by decide +kernel) rfl) (lg_at 1567 (by decide +kernel) rfl) (lg_at 1568 (by decide +kernel) rfl) (lg_at 118 (by decide +kernel) rfl) (lg_at 1569 (by decide +kernel) rfl) (by decide +kernel) (by decide)
theorem mv_RL_47 : MV RL 47 7 yX7_wind cX7_wind 2 (some .int) 1 := MV.mk RX7 TX7 10 rfl (by decide) (lg_at 851 (by decide +kernel) rfl) (lg_at 852 (by decide +kernel) rfl) (lg_at 853 (by decide +kernel) rfl) (lg_at 109 (by decide +kernel) rfl) (lg_at 854 (by decide +kernel) rfl) (by decide +kernel) (by decide)
theorem mv_RL_50 : MV RL 50 8 yX8_wind cX8_wind 2 (some .int) 1 := MV.mk RX8 TX8 66 rfl (by decide) (lg_at 1570 (by decide +kernel) rfl) (lg_at 1571 (by decide +kernel) rfl) (lg_at 1572 (by decide +kernel) rfl) (lg_at 118 (by decide +kernel) rfl) (lg_at 1573 (by decide +kernel) rfl) (by decide +kernel) (by decide)
theorem mv_RL_51 : MV RL 51 7 yX7_steers cX7_steers 2 (some .int) 1 := MV.mk RX7 TX7 10 rfl (by decide) (lg_at 859 (by decide +kernel) rfl) (lg_at 860 (by decide +kernel) rfl) (lg_at 861 (by decide +kernel) rfl) (lg_at 109 (by decide +kernel) rfl) (lg_at 862 (by decide +kernel) rfl) (by decide +kernel) (by decide)
theorem mv_RL_54 : MV RL 54 8 yX8_steers cX8_steers 2 (some .int) 1 := MV.mk RX8 TX8 66 rfl (by decide) (lg_at 1574 (by decide +kernel) rfl) (lg_at 1575 (by decide +kernel) rfl) (lg_at 1576 (by decide +kernel) rfl) (lg_at 118 (by decide +kernel) rfl) (lg_at 1577 (by decide +kernel) rfl) (by decide +kernel) (by decide)
theorem mv_RL_55 : MV RL 55 7 yX7_hours cX7_hours 2 (some .int) 1 := MV.mk RX7 TX7 10 rfl (by decide) (lg_at 874 (by decide +kernel) rfl) (lg_at 875 (by decide +kernel) rfl) (lg_at 876 (by decide +kernel) rfl) (lg_at 109 (by decide +kernel) rfl) (lg_at 877 (by decide +kernel) rfl) (by decide +kernel) (by decide)
theorem mv_RL_58 : MV RL 58 8 yX8_hours cX8_hours 2 (some .int) 1 := MV.mk RX8 TX8 66 rfl (by decide) (lg_at 1585 (by decide +kernel) rfl) (lg_at 1586 (by decide +kernel) rfl) (lg_at 1587 (by decide +kernel) rfl) (lg_at 118 (by decide +kernel) rfl) (lg_at 1588 (by decide +kernel) rfl) (by decide +kernel) (by decide)
theorem mv_RL_59 : MV RL 59 7 yX7_go cX7_go 3 (some .int) 2 := MV.mk RX7 TX7 10 rfl (by decide) (lg_at 903 (by decide +kernel) rfl) (lg_at 904 (by decide +kernel) rfl) (lg_at 905 (by decide +kernel) rfl) (lg_at 109 (by decide +kernel) rfl) (lg_at 906 (by decide +kernel) rfl) (by decide +kernel) (by decide)
theorem mv_RL_62 : MV RL 62 8 yX8_go cX8_go 4 (some .int) 2 := MV.mk RX8 TX8 66 rfl (by decide) (lg_at 1605 (by decide +kernel) rfl) (lg_at 1606 (by decide +kernel) rfl) (lg_at 1607 (by decide +kernel) rfl) (lg_at 118 (by decide +kernel) rfl) (lg_at 1608 (by decide +kernel) rfl) (by decide +kernel) (by decide)
theorem mv_RL_63 : MV RL 63 7 yX7_pan cX7_pan 3 (some .boolean) 2 := MV.mk RX7 TX7 10 rfl (by decide) (lg_at 908 (by decide +kernel) rfl) (lg_at 909 (by decide +kernel) rfl) (lg_at 910 (by decide +kernel) rfl) (lg_at 109 (by decide +kernel) rfl) (lg_at 911 (by decide +kernel) rfl) (by decide +kernel) (by decide)
theorem mv_RL_67 : MV RL 67 8 yX8_pan cX8_pan 3 (some .boolean) 2 := MV.mk RX8 TX8 66 rfl (by decide) (lg_at 1609 (by decide +kernel) rfl) (lg_at 1610 (by decide +kernel) rfl) (lg_at 1611 (by decide +kernel) rfl) (lg_at 118 (by decide +kernel) rfl) (lg_at 1612 (by decide +kernel) rfl) (by decide +kernel) (by decide)
theorem mv_RL_68 : MV RL 68 7 yX7_undo cX7_undo 1 (some .boolean) 0 := MV.mk RX7 TX7 10 rfl (by decide) (lg_at 912 (by decide +kernel) rfl) (lg_at 913 (by decide +kernel) rfl) (lg_at 914 (by decide +kernel) rfl) (lg_at 109 (by decide +kernel) rfl) (lg_at 915 (by decide +kernel) rfl) (by decide +kernel) (by decide)
theorem mv_RL_72 : MV RL 72 8 yX8_undo cX8_undo 2 (some .boolean) 0 := MV.mk RX8 TX8 66 rfl (by decide) (lg_at 1613 (by decide +kernel) rfl) (lg_at 1614 (by decide +kernel) rfl) (lg_at 1615 (by decide +kernel) rfl) (lg_at 118 (by decide +kernel) rfl) (lg_at 1616 (by decide +kernel) rfl) (by decide +kernel) (by decide)
theorem mv_RL_73 : MV RL 73 7 yX7_then cX7_then 4 (some .int) 3 := MV.mk RX7 TX7 10 rfl (by decide) (lg_at 920 (by decide +kernel) rfl) (lg_at 921 (by decide +kernel) rfl) (lg_at 922 (by decide +kernel) rfl) (lg_at 109 (by decide +kernel) rfl) (lg_at 923 (by decide +kernel) rfl) (by decide +kernel) (by decide)
theorem mv_RL_76 : MV RL 76 8 yX8_then cX8_then 4 (some .int) 3 := MV.mk RX8 TX8 66 rfl (by decide) (lg_at 1617 (by decide +kernel) rfl) (lg_at 1618 (by decide +kernel) rfl) (lg_at 1619 (by decide +kernel) rfl) (lg_at 118 (by decide +kernel) rfl) (lg_at 1620 (by decide +kernel) rfl) (by decide +kernel) (by decide)
theorem mv_RL_77 : MV RL 77 7 yX7_many cX7_many 3 (some .int) 2 := MV.mk RX7 TX7 10 rfl (by decide) (lg_at 929 (by decide +kernel) rfl) (lg_at 930 (by decide +kernel) rfl) (lg_at 931 (by decide +kernel) rfl) (lg_at 109 (by decide +kernel) rfl) (lg_at 932 (by decide +kernel) rfl) (by decide +kernel) (by decide)
theorem mv_RL_81 : MV RL 81 8 yX8_many cX8_many 3 (some .int) 2 := MV.mk RX8 TX8 66 rfl (by decide) (lg_at 1624 (by decide +kernel) rfl) (lg_at 1625 (by decide +kernel) rfl) (lg_at 1626 (by decide +kernel) rfl) (lg_at 118 (by decide +kernel) rfl) (lg_at 1627 (by decide +kernel) rfl) (by decide +kernel) (by decide)
theorem mv_RL_82 : MV RL 82 7 yX7_ranked cX7_ranked 2 (some .int) 1 := MV.mk RX7 TX7 10 rfl (by decide) (lg_at 934 (by decide +kernel) rfl) (lg_at 935 (by decide +kernel) rfl) (lg_at 936 (by decide +kernel) rfl) (lg_at 109 (by decide +kernel) rfl) (lg_at 937 (by decide +kernel) rfl) (by decide +kernel) (by decide)
theorem mv_RL_85 : MV RL 85 8 yX8_ranked cX8_ranked 2 (some .int) 1 := MV.mk RX8 TX8 66 rfl (by decide) (lg_at 1632 (by decide +kernel) rfl) (lg_at 1633 (by decide +kernel) rfl) (lg_at 1634 (by decide +kernel) rfl) (lg_at 118 (by decide +kernel) rfl) (lg_at 1635 (by decide +kernel) rfl) (by decide +kernel) (by decide)
theorem mv_RL_86 : MV RL 86 7 yX7_soonest cX7_soonest 2 (some .int) 1 := MV.mk RX7 TX7 10 rfl (by decide) (lg_at 943 (by decide +kernel) rfl) (lg_at 944 (by decide +kernel) rfl) (lg_at 945 (by decide +kernel) rfl) (lg_at 109 (by decide +kernel) rfl) (lg_at 946 (by decide +kernel) rfl) (by decide +kernel) (by decide)
theorem mv_RL_89 : MV RL 89 8 yX8_soonest cX8_soonest 2 (some .int) 1 := MV.mk RX8 TX8 66 rfl (by decide) (lg_at 1640 (by decide +kernel) rfl) (lg_at 1641 (by decide +kernel) rfl) (lg_at 1642 (by decide +kernel) rfl) (lg_at 118 (by decide +kernel) rfl) (lg_at 1643 (by decide +kernel) rfl) (by decide +kernel) (by decide)
theorem mv_RL_90 : MV RL 90 7 yX7_route cX7_route 6 (some .int) 2 := MV.mk RX7 TX7 10 rfl (by decide) (lg_at 951 (by decide +kernel) rfl) (lg_at 952 (by decide +kernel) rfl) (lg_at 953 (by decide +kernel) rfl) (lg_at 109 (by decide +kernel) rfl) (lg_at 954 (by decide +kernel) rfl) (by decide +kernel) (by decide)
theorem mv_RL_93 : MV RL 93 8 yX8_route cX8_route 8 (some .int) 2 := MV.mk RX8 TX8 66 rfl (by decide) (lg_at 1660 (by decide +kernel) rfl) (lg_at 1661 (by decide +kernel) rfl) (lg_at 1662 (by decide +kernel) rfl) (lg_at 118 (by decide +kernel) rfl) (lg_at 1663 (by decide +kernel) rfl) (by decide +kernel) (by decide)
theorem mv_RL_94 : MV RL 94 7 yX7_hidden cX7_hidden 8 (some .int) 1 := MV.mk RX7 TX7 10 rfl (by decide) (lg_at 960 (by decide +kernel) rfl) (lg_at 961 (by decide +kernel) rfl) (lg_at 962 (by decide +kernel) rfl) (lg_at 109 (by decide +kernel) rfl) (lg_at 963 (by decide +kernel) rfl) (by decide +kernel) (by decide)
theorem mv_RL_97 : MV RL 97 8 yX8_hidden cX8_hidden 6 (some .int) 1 := MV.mk RX8 TX8 66 rfl (by decide) (lg_at 1664 (by decide +kernel) rfl) (lg_at 1665 (by decide +kernel) rfl) (lg_at 1666 (by decide +kernel) rfl) (lg_at 118 (by decide +kernel) rfl) (lg_at 1667 (by decide +kernel) rfl) (by decide +kernel) (by decide)
theorem mv_RL_98 : MV RL 98 7 yX7_inPlace cX7_inPlace 8 (some .int) 2 := MV.mk RX7 TX7 10 rfl (by decide) (lg_at 985 (by decide +kernel) rfl) (lg_at 986 (by decide +kernel) rfl) (lg_at 987 (by decide +kernel) rfl) (lg_at 109 (by decide +kernel) rfl) (lg_at 988 (by decide +kernel) rfl) (by decide +kernel) (by decide)
theorem nl_RL_7 : NL RL 7 7 := ⟨RX7, TX7, 10, tyX7, rfl, inX7, by decide +kernel, by decide, tyX7_ok, (lg_at 128 (by decide +kernel) rfl), (lg_at 129 (by decide +kernel) rfl), (lg_at 109 (by decide +kernel) rfl), dfX7⟩
theorem nl_RL_10 : NL RL 10 8 := ⟨RX8, TX8, 66, tyX8, rfl, inX8, by decide +kernel, by decide, tyX8_ok, (lg_at 1128 (by decide +kernel) rfl), (lg_at 1129 (by decide +kernel) rfl), (lg_at 118 (by decide +kernel) rfl), dfX8⟩
theorem mi_RL_9 : MI RL 9 yX7_init cX7_init 2 := ⟨gd_cons (lg_at 132 (by decide +kernel) rfl) gd_tbl, (lg_at 109 (by decide +kernel) rfl), (lg_at 131 (by decide +kernel) rfl), rfl, by decide +kernel, by decide, Or.inl (lg_at 130 (by decide +kernel) rfl)⟩
theorem cd_X8 : Cond.code yX8_init cX8_init 1 none ∈ lw_tbl := by
  have h5 : Cond.code yX8_init cX8_init 1 none ∈ tables_1_5 := List.mem_of_getElem? (i := 64) rfl
  have h : Cond.code yX8_init cX8_init 1 none ∈ tables_1 := by
    unfold tables_1
    exact List.mem_append_right _ (List.mem_append_right _ (List.mem_append_right _ (List.mem_append_right _ (List.mem_append_left _ h5))))
  unfold lw_tbl
  exact List.mem_append_right _ h
theorem mi_RL_12 : MI RL 12 yX8_init cX8_init 1 := ⟨gd_cons (lg_in cd_X8 rfl) gd_tbl, (lg_at 118 (by decide +kernel) rfl), (lg_at 1131 (by decide +kernel) rfl), rfl, by decide +kernel, by decide, Or.inl (lg_at 1130 (by decide +kernel) rfl)⟩
