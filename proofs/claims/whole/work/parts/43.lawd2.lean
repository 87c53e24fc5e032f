theorem d_L_law_1045 : decode c_L_law 1045 = .ok (.aload_n 0, 1) := by decide +kernel
theorem d_L_law_1046 : decode c_L_law 1046 = .ok (.iload 4, 2) := by decide +kernel
theorem d_L_law_1048 : decode c_L_law 1048 = .ok (.bipush 6, 2) := by decide +kernel
theorem d_L_law_1050 : decode c_L_law 1050 = .ok (.iadd, 1) := by decide +kernel
theorem d_L_law_1051 : decode c_L_law 1051 = .ok (.iaload, 1) := by decide +kernel
theorem d_L_law_1052 : decode c_L_law 1052 = .ok (.i2l, 1) := by decide +kernel
theorem d_L_law_1053 : decode c_L_law 1053 = .ok (.bipush 32, 2) := by decide +kernel
theorem d_L_law_1055 : decode c_L_law 1055 = .ok (.lshl, 1) := by decide +kernel
theorem d_L_law_1056 : decode c_L_law 1056 = .ok (.aload_n 0, 1) := by decide +kernel
theorem d_L_law_1057 : decode c_L_law 1057 = .ok (.iload 4, 2) := by decide +kernel
theorem d_L_law_1059 : decode c_L_law 1059 = .ok (.bipush 7, 2) := by decide +kernel
theorem d_L_law_1061 : decode c_L_law 1061 = .ok (.iadd, 1) := by decide +kernel
theorem d_L_law_1062 : decode c_L_law 1062 = .ok (.iaload, 1) := by decide +kernel
theorem d_L_law_1063 : decode c_L_law 1063 = .ok (.i2l, 1) := by decide +kernel
theorem d_L_law_1064 : decode c_L_law 1064 = .ok (.ldc2_w 79, 3) := by decide +kernel
theorem d_L_law_1067 : decode c_L_law 1067 = .ok (.land, 1) := by decide +kernel
theorem d_L_law_1068 : decode c_L_law 1068 = .ok (.lor, 1) := by decide +kernel
theorem d_L_law_1069 : decode c_L_law 1069 = .ok (.invokevirtual 111, 3) := by decide +kernel
theorem d_L_law_1072 : decode c_L_law 1072 = .ok (.istore 6, 2) := by decide +kernel
theorem d_L_law_1074 : decode c_L_law 1074 = .ok (.aload_n 2, 1) := by decide +kernel
theorem d_L_law_1075 : decode c_L_law 1075 = .ok (.invokevirtual 87, 3) := by decide +kernel
theorem d_L_law_1078 : decode c_L_law 1078 = .ok (.iload 5, 2) := by decide +kernel
theorem d_L_law_1080 : decode c_L_law 1080 = .ok (.if_icmp .eq 5, 3) := by decide +kernel
theorem d_L_law_1083 : decode c_L_law 1083 = .ok (.iconst 0, 1) := by decide +kernel
theorem d_L_law_1084 : decode c_L_law 1084 = .ok (.ireturn, 1) := by decide +kernel
theorem d_L_law_1085 : decode c_L_law 1085 = .ok (.iload 5, 2) := by decide +kernel
theorem d_L_law_1087 : decode c_L_law 1087 = .ok (.ifCond .ne 22, 3) := by decide +kernel
theorem d_L_law_1090 : decode c_L_law 1090 = .ok (.aload_n 3, 1) := by decide +kernel
theorem d_L_law_1091 : decode c_L_law 1091 = .ok (.iconst 0, 1) := by decide +kernel
theorem d_L_law_1092 : decode c_L_law 1092 = .ok (.laload, 1) := by decide +kernel
theorem d_L_law_1093 : decode c_L_law 1093 = .ok (.iload 6, 2) := by decide +kernel
theorem d_L_law_1095 : decode c_L_law 1095 = .ok (.ifCond .eq 7, 3) := by decide +kernel
theorem d_L_law_1098 : decode c_L_law 1098 = .ok (.lconst 1, 1) := by decide +kernel
theorem d_L_law_1099 : decode c_L_law 1099 = .ok (.goto 4, 3) := by decide +kernel
theorem d_L_law_1102 : decode c_L_law 1102 = .ok (.lconst 0, 1) := by decide +kernel
theorem d_L_law_1103 : decode c_L_law 1103 = .ok (.lcmp, 1) := by decide +kernel
theorem d_L_law_1104 : decode c_L_law 1104 = .ok (.ifCond .eq 5, 3) := by decide +kernel
theorem d_L_law_1107 : decode c_L_law 1107 = .ok (.iconst 0, 1) := by decide +kernel
theorem d_L_law_1108 : decode c_L_law 1108 = .ok (.ireturn, 1) := by decide +kernel
theorem d_L_law_1109 : decode c_L_law 1109 = .ok (.goto 905, 3) := by decide +kernel
theorem d_L_law_1112 : decode c_L_law 1112 = .ok (.aload_n 1, 1) := by decide +kernel
theorem d_L_law_1113 : decode c_L_law 1113 = .ok (.aload_n 0, 1) := by decide +kernel
theorem d_L_law_1114 : decode c_L_law 1114 = .ok (.iload 4, 2) := by decide +kernel
theorem d_L_law_1116 : decode c_L_law 1116 = .ok (.iconst 1, 1) := by decide +kernel
theorem d_L_law_1117 : decode c_L_law 1117 = .ok (.iadd, 1) := by decide +kernel
theorem d_L_law_1118 : decode c_L_law 1118 = .ok (.iaload, 1) := by decide +kernel
theorem d_L_law_1119 : decode c_L_law 1119 = .ok (.i2l, 1) := by decide +kernel
theorem d_L_law_1120 : decode c_L_law 1120 = .ok (.bipush 32, 2) := by decide +kernel
theorem d_L_law_1122 : decode c_L_law 1122 = .ok (.lshl, 1) := by decide +kernel
theorem d_L_law_1123 : decode c_L_law 1123 = .ok (.aload_n 0, 1) := by decide +kernel
theorem d_L_law_1124 : decode c_L_law 1124 = .ok (.iload 4, 2) := by decide +kernel
theorem d_L_law_1126 : decode c_L_law 1126 = .ok (.iconst 2, 1) := by decide +kernel
theorem d_L_law_1127 : decode c_L_law 1127 = .ok (.iadd, 1) := by decide +kernel
theorem d_L_law_1128 : decode c_L_law 1128 = .ok (.iaload, 1) := by decide +kernel
theorem d_L_law_1129 : decode c_L_law 1129 = .ok (.i2l, 1) := by decide +kernel
theorem d_L_law_1130 : decode c_L_law 1130 = .ok (.ldc2_w 79, 3) := by decide +kernel
theorem d_L_law_1133 : decode c_L_law 1133 = .ok (.land, 1) := by decide +kernel
theorem d_L_law_1134 : decode c_L_law 1134 = .ok (.lor, 1) := by decide +kernel
theorem d_L_law_1135 : decode c_L_law 1135 = .ok (.aload_n 3, 1) := by decide +kernel
theorem d_L_law_1136 : decode c_L_law 1136 = .ok (.invokestatic 112, 3) := by decide +kernel
theorem d_L_law_1139 : decode c_L_law 1139 = .ok (.istore 5, 2) := by decide +kernel
theorem d_L_law_1141 : decode c_L_law 1141 = .ok (.aload_n 2, 1) := by decide +kernel
theorem d_L_law_1142 : decode c_L_law 1142 = .ok (.aload_n 0, 1) := by decide +kernel
theorem d_L_law_1143 : decode c_L_law 1143 = .ok (.iload 4, 2) := by decide +kernel
theorem d_L_law_1145 : decode c_L_law 1145 = .ok (.iconst 1, 1) := by decide +kernel
theorem d_L_law_1146 : decode c_L_law 1146 = .ok (.iadd, 1) := by decide +kernel
theorem d_L_law_1147 : decode c_L_law 1147 = .ok (.iaload, 1) := by decide +kernel
theorem d_L_law_1148 : decode c_L_law 1148 = .ok (.i2l, 1) := by decide +kernel
theorem d_L_law_1149 : decode c_L_law 1149 = .ok (.bipush 32, 2) := by decide +kernel
theorem d_L_law_1151 : decode c_L_law 1151 = .ok (.lshl, 1) := by decide +kernel
theorem d_L_law_1152 : decode c_L_law 1152 = .ok (.aload_n 0, 1) := by decide +kernel
theorem d_L_law_1153 : decode c_L_law 1153 = .ok (.iload 4, 2) := by decide +kernel
theorem d_L_law_1155 : decode c_L_law 1155 = .ok (.iconst 2, 1) := by decide +kernel
theorem d_L_law_1156 : decode c_L_law 1156 = .ok (.iadd, 1) := by decide +kernel
theorem d_L_law_1157 : decode c_L_law 1157 = .ok (.iaload, 1) := by decide +kernel
theorem d_L_law_1158 : decode c_L_law 1158 = .ok (.i2l, 1) := by decide +kernel
theorem d_L_law_1159 : decode c_L_law 1159 = .ok (.ldc2_w 79, 3) := by decide +kernel
theorem d_L_law_1162 : decode c_L_law 1162 = .ok (.land, 1) := by decide +kernel
theorem d_L_law_1163 : decode c_L_law 1163 = .ok (.lor, 1) := by decide +kernel
theorem d_L_law_1164 : decode c_L_law 1164 = .ok (.invokevirtual 115, 3) := by decide +kernel
theorem d_L_law_1167 : decode c_L_law 1167 = .ok (.istore 6, 2) := by decide +kernel
theorem d_L_law_1169 : decode c_L_law 1169 = .ok (.aload_n 2, 1) := by decide +kernel
theorem d_L_law_1170 : decode c_L_law 1170 = .ok (.invokevirtual 87, 3) := by decide +kernel
theorem d_L_law_1173 : decode c_L_law 1173 = .ok (.iload 5, 2) := by decide +kernel
theorem d_L_law_1175 : decode c_L_law 1175 = .ok (.if_icmp .eq 5, 3) := by decide +kernel
theorem d_L_law_1178 : decode c_L_law 1178 = .ok (.iconst 0, 1) := by decide +kernel
theorem d_L_law_1179 : decode c_L_law 1179 = .ok (.ireturn, 1) := by decide +kernel
theorem d_L_law_1180 : decode c_L_law 1180 = .ok (.iload 5, 2) := by decide +kernel
theorem d_L_law_1182 : decode c_L_law 1182 = .ok (.ifCond .ne 22, 3) := by decide +kernel
theorem d_L_law_1185 : decode c_L_law 1185 = .ok (.aload_n 3, 1) := by decide +kernel
theorem d_L_law_1186 : decode c_L_law 1186 = .ok (.iconst 0, 1) := by decide +kernel
theorem d_L_law_1187 : decode c_L_law 1187 = .ok (.laload, 1) := by decide +kernel
theorem d_L_law_1188 : decode c_L_law 1188 = .ok (.iload 6, 2) := by decide +kernel
theorem d_L_law_1190 : decode c_L_law 1190 = .ok (.ifCond .eq 7, 3) := by decide +kernel
theorem d_L_law_1193 : decode c_L_law 1193 = .ok (.lconst 1, 1) := by decide +kernel
theorem d_L_law_1194 : decode c_L_law 1194 = .ok (.goto 4, 3) := by decide +kernel
theorem d_L_law_1197 : decode c_L_law 1197 = .ok (.lconst 0, 1) := by decide +kernel
theorem d_L_law_1198 : decode c_L_law 1198 = .ok (.lcmp, 1) := by decide +kernel
theorem d_L_law_1199 : decode c_L_law 1199 = .ok (.ifCond .eq 5, 3) := by decide +kernel
theorem d_L_law_1202 : decode c_L_law 1202 = .ok (.iconst 0, 1) := by decide +kernel
theorem d_L_law_1203 : decode c_L_law 1203 = .ok (.ireturn, 1) := by decide +kernel
theorem d_L_law_1204 : decode c_L_law 1204 = .ok (.goto 810, 3) := by decide +kernel
theorem d_L_law_1207 : decode c_L_law 1207 = .ok (.aload_n 1, 1) := by decide +kernel
theorem d_L_law_1208 : decode c_L_law 1208 = .ok (.aload_n 0, 1) := by decide +kernel
theorem d_L_law_1209 : decode c_L_law 1209 = .ok (.iload 4, 2) := by decide +kernel
theorem d_L_law_1211 : decode c_L_law 1211 = .ok (.iconst 1, 1) := by decide +kernel
theorem d_L_law_1212 : decode c_L_law 1212 = .ok (.iadd, 1) := by decide +kernel
theorem d_L_law_1213 : decode c_L_law 1213 = .ok (.iaload, 1) := by decide +kernel
theorem d_L_law_1214 : decode c_L_law 1214 = .ok (.aload_n 0, 1) := by decide +kernel
theorem d_L_law_1215 : decode c_L_law 1215 = .ok (.iload 4, 2) := by decide +kernel
theorem d_L_law_1217 : decode c_L_law 1217 = .ok (.iconst 2, 1) := by decide +kernel
theorem d_L_law_1218 : decode c_L_law 1218 = .ok (.iadd, 1) := by decide +kernel
theorem d_L_law_1219 : decode c_L_law 1219 = .ok (.iaload, 1) := by decide +kernel
theorem d_L_law_1220 : decode c_L_law 1220 = .ok (.i2l, 1) := by decide +kernel
theorem d_L_law_1221 : decode c_L_law 1221 = .ok (.bipush 32, 2) := by decide +kernel
theorem d_L_law_1223 : decode c_L_law 1223 = .ok (.lshl, 1) := by decide +kernel
theorem d_L_law_1224 : decode c_L_law 1224 = .ok (.aload_n 0, 1) := by decide +kernel
theorem d_L_law_1225 : decode c_L_law 1225 = .ok (.iload 4, 2) := by decide +kernel
theorem d_L_law_1227 : decode c_L_law 1227 = .ok (.iconst 3, 1) := by decide +kernel
theorem d_L_law_1228 : decode c_L_law 1228 = .ok (.iadd, 1) := by decide +kernel
theorem d_L_law_1229 : decode c_L_law 1229 = .ok (.iaload, 1) := by decide +kernel
theorem d_L_law_1230 : decode c_L_law 1230 = .ok (.i2l, 1) := by decide +kernel
theorem d_L_law_1231 : decode c_L_law 1231 = .ok (.ldc2_w 79, 3) := by decide +kernel
theorem d_L_law_1234 : decode c_L_law 1234 = .ok (.land, 1) := by decide +kernel
theorem d_L_law_1235 : decode c_L_law 1235 = .ok (.lor, 1) := by decide +kernel
theorem d_L_law_1236 : decode c_L_law 1236 = .ok (.aload_n 3, 1) := by decide +kernel
theorem d_L_law_1237 : decode c_L_law 1237 = .ok (.invokestatic 116, 3) := by decide +kernel
theorem d_L_law_1240 : decode c_L_law 1240 = .ok (.istore 5, 2) := by decide +kernel
theorem d_L_law_1242 : decode c_L_law 1242 = .ok (.aload_n 2, 1) := by decide +kernel
theorem d_L_law_1243 : decode c_L_law 1243 = .ok (.aload_n 0, 1) := by decide +kernel
theorem d_L_law_1244 : decode c_L_law 1244 = .ok (.iload 4, 2) := by decide +kernel
theorem d_L_law_1246 : decode c_L_law 1246 = .ok (.iconst 1, 1) := by decide +kernel
theorem d_L_law_1247 : decode c_L_law 1247 = .ok (.iadd, 1) := by decide +kernel
theorem d_L_law_1248 : decode c_L_law 1248 = .ok (.iaload, 1) := by decide +kernel
theorem d_L_law_1249 : decode c_L_law 1249 = .ok (.aload_n 0, 1) := by decide +kernel
theorem d_L_law_1250 : decode c_L_law 1250 = .ok (.iload 4, 2) := by decide +kernel
theorem d_L_law_1252 : decode c_L_law 1252 = .ok (.iconst 2, 1) := by decide +kernel
theorem d_L_law_1253 : decode c_L_law 1253 = .ok (.iadd, 1) := by decide +kernel
theorem d_L_law_1254 : decode c_L_law 1254 = .ok (.iaload, 1) := by decide +kernel
theorem d_L_law_1255 : decode c_L_law 1255 = .ok (.i2l, 1) := by decide +kernel
theorem d_L_law_1256 : decode c_L_law 1256 = .ok (.bipush 32, 2) := by decide +kernel
theorem d_L_law_1258 : decode c_L_law 1258 = .ok (.lshl, 1) := by decide +kernel
theorem d_L_law_1259 : decode c_L_law 1259 = .ok (.aload_n 0, 1) := by decide +kernel
theorem d_L_law_1260 : decode c_L_law 1260 = .ok (.iload 4, 2) := by decide +kernel
theorem d_L_law_1262 : decode c_L_law 1262 = .ok (.iconst 3, 1) := by decide +kernel
theorem d_L_law_1263 : decode c_L_law 1263 = .ok (.iadd, 1) := by decide +kernel
theorem d_L_law_1264 : decode c_L_law 1264 = .ok (.iaload, 1) := by decide +kernel
theorem d_L_law_1265 : decode c_L_law 1265 = .ok (.i2l, 1) := by decide +kernel
theorem d_L_law_1266 : decode c_L_law 1266 = .ok (.ldc2_w 79, 3) := by decide +kernel
theorem d_L_law_1269 : decode c_L_law 1269 = .ok (.land, 1) := by decide +kernel
theorem d_L_law_1270 : decode c_L_law 1270 = .ok (.lor, 1) := by decide +kernel
theorem d_L_law_1271 : decode c_L_law 1271 = .ok (.invokevirtual 118, 3) := by decide +kernel
theorem d_L_law_1274 : decode c_L_law 1274 = .ok (.istore 6, 2) := by decide +kernel
theorem d_L_law_1276 : decode c_L_law 1276 = .ok (.aload_n 2, 1) := by decide +kernel
theorem d_L_law_1277 : decode c_L_law 1277 = .ok (.invokevirtual 87, 3) := by decide +kernel
theorem d_L_law_1280 : decode c_L_law 1280 = .ok (.iload 5, 2) := by decide +kernel
theorem d_L_law_1282 : decode c_L_law 1282 = .ok (.if_icmp .eq 5, 3) := by decide +kernel
theorem d_L_law_1285 : decode c_L_law 1285 = .ok (.iconst 0, 1) := by decide +kernel
theorem d_L_law_1286 : decode c_L_law 1286 = .ok (.ireturn, 1) := by decide +kernel
theorem d_L_law_1287 : decode c_L_law 1287 = .ok (.iload 5, 2) := by decide +kernel
theorem d_L_law_1289 : decode c_L_law 1289 = .ok (.ifCond .ne 22, 3) := by decide +kernel
theorem d_L_law_1292 : decode c_L_law 1292 = .ok (.aload_n 3, 1) := by decide +kernel
theorem d_L_law_1293 : decode c_L_law 1293 = .ok (.iconst 0, 1) := by decide +kernel
theorem d_L_law_1294 : decode c_L_law 1294 = .ok (.laload, 1) := by decide +kernel
theorem d_L_law_1295 : decode c_L_law 1295 = .ok (.iload 6, 2) := by decide +kernel
theorem d_L_law_1297 : decode c_L_law 1297 = .ok (.ifCond .eq 7, 3) := by decide +kernel
theorem d_L_law_1300 : decode c_L_law 1300 = .ok (.lconst 1, 1) := by decide +kernel
theorem d_L_law_1301 : decode c_L_law 1301 = .ok (.goto 4, 3) := by decide +kernel
theorem d_L_law_1304 : decode c_L_law 1304 = .ok (.lconst 0, 1) := by decide +kernel
theorem d_L_law_1305 : decode c_L_law 1305 = .ok (.lcmp, 1) := by decide +kernel
theorem d_L_law_1306 : decode c_L_law 1306 = .ok (.ifCond .eq 5, 3) := by decide +kernel
theorem d_L_law_1309 : decode c_L_law 1309 = .ok (.iconst 0, 1) := by decide +kernel
theorem d_L_law_1310 : decode c_L_law 1310 = .ok (.ireturn, 1) := by decide +kernel
theorem d_L_law_1311 : decode c_L_law 1311 = .ok (.goto 703, 3) := by decide +kernel
theorem d_L_law_1314 : decode c_L_law 1314 = .ok (.aload_n 1, 1) := by decide +kernel
theorem d_L_law_1315 : decode c_L_law 1315 = .ok (.aload_n 0, 1) := by decide +kernel
theorem d_L_law_1316 : decode c_L_law 1316 = .ok (.iload 4, 2) := by decide +kernel
theorem d_L_law_1318 : decode c_L_law 1318 = .ok (.iconst 1, 1) := by decide +kernel
theorem d_L_law_1319 : decode c_L_law 1319 = .ok (.iadd, 1) := by decide +kernel
theorem d_L_law_1320 : decode c_L_law 1320 = .ok (.iaload, 1) := by decide +kernel
theorem d_L_law_1321 : decode c_L_law 1321 = .ok (.i2l, 1) := by decide +kernel
theorem d_L_law_1322 : decode c_L_law 1322 = .ok (.bipush 32, 2) := by decide +kernel
theorem d_L_law_1324 : decode c_L_law 1324 = .ok (.lshl, 1) := by decide +kernel
theorem d_L_law_1325 : decode c_L_law 1325 = .ok (.aload_n 0, 1) := by decide +kernel
theorem d_L_law_1326 : decode c_L_law 1326 = .ok (.iload 4, 2) := by decide +kernel
theorem d_L_law_1328 : decode c_L_law 1328 = .ok (.iconst 2, 1) := by decide +kernel
theorem d_L_law_1329 : decode c_L_law 1329 = .ok (.iadd, 1) := by decide +kernel
theorem d_L_law_1330 : decode c_L_law 1330 = .ok (.iaload, 1) := by decide +kernel
theorem d_L_law_1331 : decode c_L_law 1331 = .ok (.i2l, 1) := by decide +kernel
theorem d_L_law_1332 : decode c_L_law 1332 = .ok (.ldc2_w 79, 3) := by decide +kernel
theorem d_L_law_1335 : decode c_L_law 1335 = .ok (.land, 1) := by decide +kernel
theorem d_L_law_1336 : decode c_L_law 1336 = .ok (.lor, 1) := by decide +kernel
theorem d_L_law_1337 : decode c_L_law 1337 = .ok (.aload_n 0, 1) := by decide +kernel
theorem d_L_law_1338 : decode c_L_law 1338 = .ok (.iload 4, 2) := by decide +kernel
theorem d_L_law_1340 : decode c_L_law 1340 = .ok (.iconst 3, 1) := by decide +kernel
theorem d_L_law_1341 : decode c_L_law 1341 = .ok (.iadd, 1) := by decide +kernel
theorem d_L_law_1342 : decode c_L_law 1342 = .ok (.iaload, 1) := by decide +kernel
theorem d_L_law_1343 : decode c_L_law 1343 = .ok (.aload_n 0, 1) := by decide +kernel
theorem d_L_law_1344 : decode c_L_law 1344 = .ok (.iload 4, 2) := by decide +kernel
theorem d_L_law_1346 : decode c_L_law 1346 = .ok (.iconst 4, 1) := by decide +kernel
theorem d_L_law_1347 : decode c_L_law 1347 = .ok (.iadd, 1) := by decide +kernel
theorem d_L_law_1348 : decode c_L_law 1348 = .ok (.iaload, 1) := by decide +kernel
theorem d_L_law_1349 : decode c_L_law 1349 = .ok (.i2l, 1) := by decide +kernel
theorem d_L_law_1350 : decode c_L_law 1350 = .ok (.bipush 32, 2) := by decide +kernel
theorem d_L_law_1352 : decode c_L_law 1352 = .ok (.lshl, 1) := by decide +kernel
theorem d_L_law_1353 : decode c_L_law 1353 = .ok (.aload_n 0, 1) := by decide +kernel
theorem d_L_law_1354 : decode c_L_law 1354 = .ok (.iload 4, 2) := by decide +kernel
theorem d_L_law_1356 : decode c_L_law 1356 = .ok (.iconst 5, 1) := by decide +kernel
theorem d_L_law_1357 : decode c_L_law 1357 = .ok (.iadd, 1) := by decide +kernel
theorem d_L_law_1358 : decode c_L_law 1358 = .ok (.iaload, 1) := by decide +kernel
theorem d_L_law_1359 : decode c_L_law 1359 = .ok (.i2l, 1) := by decide +kernel
theorem d_L_law_1360 : decode c_L_law 1360 = .ok (.ldc2_w 79, 3) := by decide +kernel
theorem d_L_law_1363 : decode c_L_law 1363 = .ok (.land, 1) := by decide +kernel
theorem d_L_law_1364 : decode c_L_law 1364 = .ok (.lor, 1) := by decide +kernel
theorem d_L_law_1365 : decode c_L_law 1365 = .ok (.aload_n 3, 1) := by decide +kernel
theorem d_L_law_1366 : decode c_L_law 1366 = .ok (.invokestatic 119, 3) := by decide +kernel
theorem d_L_law_1369 : decode c_L_law 1369 = .ok (.istore 5, 2) := by decide +kernel
theorem d_L_law_1371 : decode c_L_law 1371 = .ok (.aload_n 2, 1) := by decide +kernel
theorem d_L_law_1372 : decode c_L_law 1372 = .ok (.aload_n 0, 1) := by decide +kernel
theorem d_L_law_1373 : decode c_L_law 1373 = .ok (.iload 4, 2) := by decide +kernel
theorem d_L_law_1375 : decode c_L_law 1375 = .ok (.iconst 1, 1) := by decide +kernel
theorem d_L_law_1376 : decode c_L_law 1376 = .ok (.iadd, 1) := by decide +kernel
theorem d_L_law_1377 : decode c_L_law 1377 = .ok (.iaload, 1) := by decide +kernel
theorem d_L_law_1378 : decode c_L_law 1378 = .ok (.i2l, 1) := by decide +kernel
theorem d_L_law_1379 : decode c_L_law 1379 = .ok (.bipush 32, 2) := by decide +kernel
theorem d_L_law_1381 : decode c_L_law 1381 = .ok (.lshl, 1) := by decide +kernel
theorem d_L_law_1382 : decode c_L_law 1382 = .ok (.aload_n 0, 1) := by decide +kernel
theorem d_L_law_1383 : decode c_L_law 1383 = .ok (.iload 4, 2) := by decide +kernel
theorem d_L_law_1385 : decode c_L_law 1385 = .ok (.iconst 2, 1) := by decide +kernel
theorem d_L_law_1386 : decode c_L_law 1386 = .ok (.iadd, 1) := by decide +kernel
theorem d_L_law_1387 : decode c_L_law 1387 = .ok (.iaload, 1) := by decide +kernel
theorem d_L_law_1388 : decode c_L_law 1388 = .ok (.i2l, 1) := by decide +kernel
theorem d_L_law_1389 : decode c_L_law 1389 = .ok (.ldc2_w 79, 3) := by decide +kernel
theorem d_L_law_1392 : decode c_L_law 1392 = .ok (.land, 1) := by decide +kernel
theorem d_L_law_1393 : decode c_L_law 1393 = .ok (.lor, 1) := by decide +kernel
theorem d_L_law_1394 : decode c_L_law 1394 = .ok (.aload_n 0, 1) := by decide +kernel
theorem d_L_law_1395 : decode c_L_law 1395 = .ok (.iload 4, 2) := by decide +kernel
theorem d_L_law_1397 : decode c_L_law 1397 = .ok (.iconst 3, 1) := by decide +kernel
theorem d_L_law_1398 : decode c_L_law 1398 = .ok (.iadd, 1) := by decide +kernel
theorem d_L_law_1399 : decode c_L_law 1399 = .ok (.iaload, 1) := by decide +kernel
theorem d_L_law_1400 : decode c_L_law 1400 = .ok (.aload_n 0, 1) := by decide +kernel
theorem d_L_law_1401 : decode c_L_law 1401 = .ok (.iload 4, 2) := by decide +kernel
theorem d_L_law_1403 : decode c_L_law 1403 = .ok (.iconst 4, 1) := by decide +kernel
theorem d_L_law_1404 : decode c_L_law 1404 = .ok (.iadd, 1) := by decide +kernel
theorem d_L_law_1405 : decode c_L_law 1405 = .ok (.iaload, 1) := by decide +kernel
theorem d_L_law_1406 : decode c_L_law 1406 = .ok (.i2l, 1) := by decide +kernel
theorem d_L_law_1407 : decode c_L_law 1407 = .ok (.bipush 32, 2) := by decide +kernel
theorem d_L_law_1409 : decode c_L_law 1409 = .ok (.lshl, 1) := by decide +kernel
theorem d_L_law_1410 : decode c_L_law 1410 = .ok (.aload_n 0, 1) := by decide +kernel
theorem d_L_law_1411 : decode c_L_law 1411 = .ok (.iload 4, 2) := by decide +kernel
theorem d_L_law_1413 : decode c_L_law 1413 = .ok (.iconst 5, 1) := by decide +kernel
theorem d_L_law_1414 : decode c_L_law 1414 = .ok (.iadd, 1) := by decide +kernel
theorem d_L_law_1415 : decode c_L_law 1415 = .ok (.iaload, 1) := by decide +kernel
theorem d_L_law_1416 : decode c_L_law 1416 = .ok (.i2l, 1) := by decide +kernel
theorem d_L_law_1417 : decode c_L_law 1417 = .ok (.ldc2_w 79, 3) := by decide +kernel
theorem d_L_law_1420 : decode c_L_law 1420 = .ok (.land, 1) := by decide +kernel
theorem d_L_law_1421 : decode c_L_law 1421 = .ok (.lor, 1) := by decide +kernel
theorem d_L_law_1422 : decode c_L_law 1422 = .ok (.invokevirtual 122, 3) := by decide +kernel
theorem d_L_law_1425 : decode c_L_law 1425 = .ok (.lstore 6, 2) := by decide +kernel
theorem d_L_law_1427 : decode c_L_law 1427 = .ok (.aload_n 2, 1) := by decide +kernel
theorem d_L_law_1428 : decode c_L_law 1428 = .ok (.invokevirtual 87, 3) := by decide +kernel
theorem d_L_law_1431 : decode c_L_law 1431 = .ok (.iload 5, 2) := by decide +kernel
theorem d_L_law_1433 : decode c_L_law 1433 = .ok (.if_icmp .eq 5, 3) := by decide +kernel
theorem d_L_law_1436 : decode c_L_law 1436 = .ok (.iconst 0, 1) := by decide +kernel
theorem d_L_law_1437 : decode c_L_law 1437 = .ok (.ireturn, 1) := by decide +kernel
theorem d_L_law_1438 : decode c_L_law 1438 = .ok (.iload 5, 2) := by decide +kernel
theorem d_L_law_1440 : decode c_L_law 1440 = .ok (.ifCond .ne 14, 3) := by decide +kernel
theorem d_L_law_1443 : decode c_L_law 1443 = .ok (.aload_n 3, 1) := by decide +kernel
theorem d_L_law_1444 : decode c_L_law 1444 = .ok (.iconst 0, 1) := by decide +kernel
theorem d_L_law_1445 : decode c_L_law 1445 = .ok (.laload, 1) := by decide +kernel
theorem d_L_law_1446 : decode c_L_law 1446 = .ok (.lload 6, 2) := by decide +kernel
theorem d_L_law_1448 : decode c_L_law 1448 = .ok (.lcmp, 1) := by decide +kernel
theorem d_L_law_1449 : decode c_L_law 1449 = .ok (.ifCond .eq 5, 3) := by decide +kernel
theorem d_L_law_1452 : decode c_L_law 1452 = .ok (.iconst 0, 1) := by decide +kernel
theorem d_L_law_1453 : decode c_L_law 1453 = .ok (.ireturn, 1) := by decide +kernel
theorem d_L_law_1454 : decode c_L_law 1454 = .ok (.goto 560, 3) := by decide +kernel
theorem d_L_law_1457 : decode c_L_law 1457 = .ok (.aload_n 1, 1) := by decide +kernel
theorem d_L_law_1458 : decode c_L_law 1458 = .ok (.aload_n 0, 1) := by decide +kernel
theorem d_L_law_1459 : decode c_L_law 1459 = .ok (.iload 4, 2) := by decide +kernel
theorem d_L_law_1461 : decode c_L_law 1461 = .ok (.iconst 1, 1) := by decide +kernel
theorem d_L_law_1462 : decode c_L_law 1462 = .ok (.iadd, 1) := by decide +kernel
theorem d_L_law_1463 : decode c_L_law 1463 = .ok (.iaload, 1) := by decide +kernel
theorem d_L_law_1464 : decode c_L_law 1464 = .ok (.i2l, 1) := by decide +kernel
theorem d_L_law_1465 : decode c_L_law 1465 = .ok (.bipush 32, 2) := by decide +kernel
theorem d_L_law_1467 : decode c_L_law 1467 = .ok (.lshl, 1) := by decide +kernel
theorem d_L_law_1468 : decode c_L_law 1468 = .ok (.aload_n 0, 1) := by decide +kernel
theorem d_L_law_1469 : decode c_L_law 1469 = .ok (.iload 4, 2) := by decide +kernel
theorem d_L_law_1471 : decode c_L_law 1471 = .ok (.iconst 2, 1) := by decide +kernel
theorem d_L_law_1472 : decode c_L_law 1472 = .ok (.iadd, 1) := by decide +kernel
theorem d_L_law_1473 : decode c_L_law 1473 = .ok (.iaload, 1) := by decide +kernel
theorem d_L_law_1474 : decode c_L_law 1474 = .ok (.i2l, 1) := by decide +kernel
theorem d_L_law_1475 : decode c_L_law 1475 = .ok (.ldc2_w 79, 3) := by decide +kernel
theorem d_L_law_1478 : decode c_L_law 1478 = .ok (.land, 1) := by decide +kernel
theorem d_L_law_1479 : decode c_L_law 1479 = .ok (.lor, 1) := by decide +kernel
theorem d_L_law_1480 : decode c_L_law 1480 = .ok (.aload_n 0, 1) := by decide +kernel
theorem d_L_law_1481 : decode c_L_law 1481 = .ok (.iload 4, 2) := by decide +kernel
theorem d_L_law_1483 : decode c_L_law 1483 = .ok (.iconst 3, 1) := by decide +kernel
theorem d_L_law_1484 : decode c_L_law 1484 = .ok (.iadd, 1) := by decide +kernel
theorem d_L_law_1485 : decode c_L_law 1485 = .ok (.iaload, 1) := by decide +kernel
theorem d_L_law_1486 : decode c_L_law 1486 = .ok (.i2l, 1) := by decide +kernel
theorem d_L_law_1487 : decode c_L_law 1487 = .ok (.bipush 32, 2) := by decide +kernel
theorem d_L_law_1489 : decode c_L_law 1489 = .ok (.lshl, 1) := by decide +kernel
theorem d_L_law_1490 : decode c_L_law 1490 = .ok (.aload_n 0, 1) := by decide +kernel
theorem d_L_law_1491 : decode c_L_law 1491 = .ok (.iload 4, 2) := by decide +kernel
theorem d_L_law_1493 : decode c_L_law 1493 = .ok (.iconst 4, 1) := by decide +kernel
theorem d_L_law_1494 : decode c_L_law 1494 = .ok (.iadd, 1) := by decide +kernel
theorem d_L_law_1495 : decode c_L_law 1495 = .ok (.iaload, 1) := by decide +kernel
theorem d_L_law_1496 : decode c_L_law 1496 = .ok (.i2l, 1) := by decide +kernel
theorem d_L_law_1497 : decode c_L_law 1497 = .ok (.ldc2_w 79, 3) := by decide +kernel
theorem d_L_law_1500 : decode c_L_law 1500 = .ok (.land, 1) := by decide +kernel
theorem d_L_law_1501 : decode c_L_law 1501 = .ok (.lor, 1) := by decide +kernel
theorem d_L_law_1502 : decode c_L_law 1502 = .ok (.aload_n 3, 1) := by decide +kernel
theorem d_L_law_1503 : decode c_L_law 1503 = .ok (.invokestatic 123, 3) := by decide +kernel
theorem d_L_law_1506 : decode c_L_law 1506 = .ok (.istore 5, 2) := by decide +kernel
theorem d_L_law_1508 : decode c_L_law 1508 = .ok (.aload_n 2, 1) := by decide +kernel
theorem d_L_law_1509 : decode c_L_law 1509 = .ok (.aload_n 0, 1) := by decide +kernel
theorem d_L_law_1510 : decode c_L_law 1510 = .ok (.iload 4, 2) := by decide +kernel
theorem d_L_law_1512 : decode c_L_law 1512 = .ok (.iconst 1, 1) := by decide +kernel
theorem d_L_law_1513 : decode c_L_law 1513 = .ok (.iadd, 1) := by decide +kernel
theorem d_L_law_1514 : decode c_L_law 1514 = .ok (.iaload, 1) := by decide +kernel
theorem d_L_law_1515 : decode c_L_law 1515 = .ok (.i2l, 1) := by decide +kernel
theorem d_L_law_1516 : decode c_L_law 1516 = .ok (.bipush 32, 2) := by decide +kernel
theorem d_L_law_1518 : decode c_L_law 1518 = .ok (.lshl, 1) := by decide +kernel
theorem d_L_law_1519 : decode c_L_law 1519 = .ok (.aload_n 0, 1) := by decide +kernel
theorem d_L_law_1520 : decode c_L_law 1520 = .ok (.iload 4, 2) := by decide +kernel
theorem d_L_law_1522 : decode c_L_law 1522 = .ok (.iconst 2, 1) := by decide +kernel
theorem d_L_law_1523 : decode c_L_law 1523 = .ok (.iadd, 1) := by decide +kernel
theorem d_L_law_1524 : decode c_L_law 1524 = .ok (.iaload, 1) := by decide +kernel
theorem d_L_law_1525 : decode c_L_law 1525 = .ok (.i2l, 1) := by decide +kernel
theorem d_L_law_1526 : decode c_L_law 1526 = .ok (.ldc2_w 79, 3) := by decide +kernel
theorem d_L_law_1529 : decode c_L_law 1529 = .ok (.land, 1) := by decide +kernel
theorem d_L_law_1530 : decode c_L_law 1530 = .ok (.lor, 1) := by decide +kernel
theorem d_L_law_1531 : decode c_L_law 1531 = .ok (.aload_n 0, 1) := by decide +kernel
theorem d_L_law_1532 : decode c_L_law 1532 = .ok (.iload 4, 2) := by decide +kernel
theorem d_L_law_1534 : decode c_L_law 1534 = .ok (.iconst 3, 1) := by decide +kernel
theorem d_L_law_1535 : decode c_L_law 1535 = .ok (.iadd, 1) := by decide +kernel
theorem d_L_law_1536 : decode c_L_law 1536 = .ok (.iaload, 1) := by decide +kernel
theorem d_L_law_1537 : decode c_L_law 1537 = .ok (.i2l, 1) := by decide +kernel
theorem d_L_law_1538 : decode c_L_law 1538 = .ok (.bipush 32, 2) := by decide +kernel
theorem d_L_law_1540 : decode c_L_law 1540 = .ok (.lshl, 1) := by decide +kernel
theorem d_L_law_1541 : decode c_L_law 1541 = .ok (.aload_n 0, 1) := by decide +kernel
theorem d_L_law_1542 : decode c_L_law 1542 = .ok (.iload 4, 2) := by decide +kernel
theorem d_L_law_1544 : decode c_L_law 1544 = .ok (.iconst 4, 1) := by decide +kernel
theorem d_L_law_1545 : decode c_L_law 1545 = .ok (.iadd, 1) := by decide +kernel
theorem d_L_law_1546 : decode c_L_law 1546 = .ok (.iaload, 1) := by decide +kernel
theorem d_L_law_1547 : decode c_L_law 1547 = .ok (.i2l, 1) := by decide +kernel
theorem d_L_law_1548 : decode c_L_law 1548 = .ok (.ldc2_w 79, 3) := by decide +kernel
theorem d_L_law_1551 : decode c_L_law 1551 = .ok (.land, 1) := by decide +kernel
theorem d_L_law_1552 : decode c_L_law 1552 = .ok (.lor, 1) := by decide +kernel
theorem d_L_law_1553 : decode c_L_law 1553 = .ok (.invokevirtual 125, 3) := by decide +kernel
theorem d_L_law_1556 : decode c_L_law 1556 = .ok (.istore 6, 2) := by decide +kernel
theorem d_L_law_1558 : decode c_L_law 1558 = .ok (.aload_n 2, 1) := by decide +kernel
theorem d_L_law_1559 : decode c_L_law 1559 = .ok (.invokevirtual 87, 3) := by decide +kernel
theorem d_L_law_1562 : decode c_L_law 1562 = .ok (.iload 5, 2) := by decide +kernel
theorem d_L_law_1564 : decode c_L_law 1564 = .ok (.if_icmp .eq 5, 3) := by decide +kernel
theorem d_L_law_1567 : decode c_L_law 1567 = .ok (.iconst 0, 1) := by decide +kernel
theorem d_L_law_1568 : decode c_L_law 1568 = .ok (.ireturn, 1) := by decide +kernel
theorem d_L_law_1569 : decode c_L_law 1569 = .ok (.iload 5, 2) := by decide +kernel
theorem d_L_law_1571 : decode c_L_law 1571 = .ok (.ifCond .ne 15, 3) := by decide +kernel
theorem d_L_law_1574 : decode c_L_law 1574 = .ok (.aload_n 3, 1) := by decide +kernel
theorem d_L_law_1575 : decode c_L_law 1575 = .ok (.iconst 0, 1) := by decide +kernel
theorem d_L_law_1576 : decode c_L_law 1576 = .ok (.laload, 1) := by decide +kernel
theorem d_L_law_1577 : decode c_L_law 1577 = .ok (.iload 6, 2) := by decide +kernel
theorem d_L_law_1579 : decode c_L_law 1579 = .ok (.i2l, 1) := by decide +kernel
theorem d_L_law_1580 : decode c_L_law 1580 = .ok (.lcmp, 1) := by decide +kernel
theorem d_L_law_1581 : decode c_L_law 1581 = .ok (.ifCond .eq 5, 3) := by decide +kernel
theorem d_L_law_1584 : decode c_L_law 1584 = .ok (.iconst 0, 1) := by decide +kernel
theorem d_L_law_1585 : decode c_L_law 1585 = .ok (.ireturn, 1) := by decide +kernel
theorem d_L_law_1586 : decode c_L_law 1586 = .ok (.goto 428, 3) := by decide +kernel
theorem d_L_law_1589 : decode c_L_law 1589 = .ok (.aload_n 1, 1) := by decide +kernel
theorem d_L_law_1590 : decode c_L_law 1590 = .ok (.aload_n 0, 1) := by decide +kernel
theorem d_L_law_1591 : decode c_L_law 1591 = .ok (.iload 4, 2) := by decide +kernel
theorem d_L_law_1593 : decode c_L_law 1593 = .ok (.iconst 1, 1) := by decide +kernel
theorem d_L_law_1594 : decode c_L_law 1594 = .ok (.iadd, 1) := by decide +kernel
theorem d_L_law_1595 : decode c_L_law 1595 = .ok (.iaload, 1) := by decide +kernel
theorem d_L_law_1596 : decode c_L_law 1596 = .ok (.i2l, 1) := by decide +kernel
theorem d_L_law_1597 : decode c_L_law 1597 = .ok (.bipush 32, 2) := by decide +kernel
theorem d_L_law_1599 : decode c_L_law 1599 = .ok (.lshl, 1) := by decide +kernel
theorem d_L_law_1600 : decode c_L_law 1600 = .ok (.aload_n 0, 1) := by decide +kernel
theorem d_L_law_1601 : decode c_L_law 1601 = .ok (.iload 4, 2) := by decide +kernel
theorem d_L_law_1603 : decode c_L_law 1603 = .ok (.iconst 2, 1) := by decide +kernel
theorem d_L_law_1604 : decode c_L_law 1604 = .ok (.iadd, 1) := by decide +kernel
theorem d_L_law_1605 : decode c_L_law 1605 = .ok (.iaload, 1) := by decide +kernel
theorem d_L_law_1606 : decode c_L_law 1606 = .ok (.i2l, 1) := by decide +kernel
theorem d_L_law_1607 : decode c_L_law 1607 = .ok (.ldc2_w 79, 3) := by decide +kernel
theorem d_L_law_1610 : decode c_L_law 1610 = .ok (.land, 1) := by decide +kernel
theorem d_L_law_1611 : decode c_L_law 1611 = .ok (.lor, 1) := by decide +kernel
theorem d_L_law_1612 : decode c_L_law 1612 = .ok (.aload_n 0, 1) := by decide +kernel
theorem d_L_law_1613 : decode c_L_law 1613 = .ok (.iload 4, 2) := by decide +kernel
theorem d_L_law_1615 : decode c_L_law 1615 = .ok (.iconst 3, 1) := by decide +kernel
theorem d_L_law_1616 : decode c_L_law 1616 = .ok (.iadd, 1) := by decide +kernel
theorem d_L_law_1617 : decode c_L_law 1617 = .ok (.iaload, 1) := by decide +kernel
theorem d_L_law_1618 : decode c_L_law 1618 = .ok (.aload_n 0, 1) := by decide +kernel
theorem d_L_law_1619 : decode c_L_law 1619 = .ok (.iload 4, 2) := by decide +kernel
theorem d_L_law_1621 : decode c_L_law 1621 = .ok (.iconst 4, 1) := by decide +kernel
theorem d_L_law_1622 : decode c_L_law 1622 = .ok (.iadd, 1) := by decide +kernel
theorem d_L_law_1623 : decode c_L_law 1623 = .ok (.iaload, 1) := by decide +kernel
theorem d_L_law_1624 : decode c_L_law 1624 = .ok (.i2l, 1) := by decide +kernel
theorem d_L_law_1625 : decode c_L_law 1625 = .ok (.bipush 32, 2) := by decide +kernel
theorem d_L_law_1627 : decode c_L_law 1627 = .ok (.lshl, 1) := by decide +kernel
theorem d_L_law_1628 : decode c_L_law 1628 = .ok (.aload_n 0, 1) := by decide +kernel
theorem d_L_law_1629 : decode c_L_law 1629 = .ok (.iload 4, 2) := by decide +kernel
theorem d_L_law_1631 : decode c_L_law 1631 = .ok (.iconst 5, 1) := by decide +kernel
theorem d_L_law_1632 : decode c_L_law 1632 = .ok (.iadd, 1) := by decide +kernel
theorem d_L_law_1633 : decode c_L_law 1633 = .ok (.iaload, 1) := by decide +kernel
theorem d_L_law_1634 : decode c_L_law 1634 = .ok (.i2l, 1) := by decide +kernel
theorem d_L_law_1635 : decode c_L_law 1635 = .ok (.ldc2_w 79, 3) := by decide +kernel
theorem d_L_law_1638 : decode c_L_law 1638 = .ok (.land, 1) := by decide +kernel
theorem d_L_law_1639 : decode c_L_law 1639 = .ok (.lor, 1) := by decide +kernel
theorem d_L_law_1640 : decode c_L_law 1640 = .ok (.aload_n 0, 1) := by decide +kernel
theorem d_L_law_1641 : decode c_L_law 1641 = .ok (.iload 4, 2) := by decide +kernel
theorem d_L_law_1643 : decode c_L_law 1643 = .ok (.bipush 6, 2) := by decide +kernel
theorem d_L_law_1645 : decode c_L_law 1645 = .ok (.iadd, 1) := by decide +kernel
theorem d_L_law_1646 : decode c_L_law 1646 = .ok (.iaload, 1) := by decide +kernel
theorem d_L_law_1647 : decode c_L_law 1647 = .ok (.aload_n 3, 1) := by decide +kernel
theorem d_L_law_1648 : decode c_L_law 1648 = .ok (.invokestatic 126, 3) := by decide +kernel
theorem d_L_law_1651 : decode c_L_law 1651 = .ok (.istore 5, 2) := by decide +kernel
theorem d_L_law_1653 : decode c_L_law 1653 = .ok (.aload_n 2, 1) := by decide +kernel
theorem d_L_law_1654 : decode c_L_law 1654 = .ok (.aload_n 0, 1) := by decide +kernel
theorem d_L_law_1655 : decode c_L_law 1655 = .ok (.iload 4, 2) := by decide +kernel
theorem d_L_law_1657 : decode c_L_law 1657 = .ok (.iconst 1, 1) := by decide +kernel
theorem d_L_law_1658 : decode c_L_law 1658 = .ok (.iadd, 1) := by decide +kernel
theorem d_L_law_1659 : decode c_L_law 1659 = .ok (.iaload, 1) := by decide +kernel
theorem d_L_law_1660 : decode c_L_law 1660 = .ok (.i2l, 1) := by decide +kernel
theorem d_L_law_1661 : decode c_L_law 1661 = .ok (.bipush 32, 2) := by decide +kernel
theorem d_L_law_1663 : decode c_L_law 1663 = .ok (.lshl, 1) := by decide +kernel
theorem d_L_law_1664 : decode c_L_law 1664 = .ok (.aload_n 0, 1) := by decide +kernel
theorem d_L_law_1665 : decode c_L_law 1665 = .ok (.iload 4, 2) := by decide +kernel
theorem d_L_law_1667 : decode c_L_law 1667 = .ok (.iconst 2, 1) := by decide +kernel
theorem d_L_law_1668 : decode c_L_law 1668 = .ok (.iadd, 1) := by decide +kernel
theorem d_L_law_1669 : decode c_L_law 1669 = .ok (.iaload, 1) := by decide +kernel
theorem d_L_law_1670 : decode c_L_law 1670 = .ok (.i2l, 1) := by decide +kernel
theorem d_L_law_1671 : decode c_L_law 1671 = .ok (.ldc2_w 79, 3) := by decide +kernel
theorem d_L_law_1674 : decode c_L_law 1674 = .ok (.land, 1) := by decide +kernel
theorem d_L_law_1675 : decode c_L_law 1675 = .ok (.lor, 1) := by decide +kernel
theorem d_L_law_1676 : decode c_L_law 1676 = .ok (.aload_n 0, 1) := by decide +kernel
theorem d_L_law_1677 : decode c_L_law 1677 = .ok (.iload 4, 2) := by decide +kernel
theorem d_L_law_1679 : decode c_L_law 1679 = .ok (.iconst 3, 1) := by decide +kernel
theorem d_L_law_1680 : decode c_L_law 1680 = .ok (.iadd, 1) := by decide +kernel
theorem d_L_law_1681 : decode c_L_law 1681 = .ok (.iaload, 1) := by decide +kernel
theorem d_L_law_1682 : decode c_L_law 1682 = .ok (.aload_n 0, 1) := by decide +kernel
theorem d_L_law_1683 : decode c_L_law 1683 = .ok (.iload 4, 2) := by decide +kernel
theorem d_L_law_1685 : decode c_L_law 1685 = .ok (.iconst 4, 1) := by decide +kernel
theorem d_L_law_1686 : decode c_L_law 1686 = .ok (.iadd, 1) := by decide +kernel
theorem d_L_law_1687 : decode c_L_law 1687 = .ok (.iaload, 1) := by decide +kernel
theorem d_L_law_1688 : decode c_L_law 1688 = .ok (.i2l, 1) := by decide +kernel
theorem d_L_law_1689 : decode c_L_law 1689 = .ok (.bipush 32, 2) := by decide +kernel
theorem d_L_law_1691 : decode c_L_law 1691 = .ok (.lshl, 1) := by decide +kernel
theorem d_L_law_1692 : decode c_L_law 1692 = .ok (.aload_n 0, 1) := by decide +kernel
theorem d_L_law_1693 : decode c_L_law 1693 = .ok (.iload 4, 2) := by decide +kernel
theorem d_L_law_1695 : decode c_L_law 1695 = .ok (.iconst 5, 1) := by decide +kernel
theorem d_L_law_1696 : decode c_L_law 1696 = .ok (.iadd, 1) := by decide +kernel
theorem d_L_law_1697 : decode c_L_law 1697 = .ok (.iaload, 1) := by decide +kernel
theorem d_L_law_1698 : decode c_L_law 1698 = .ok (.i2l, 1) := by decide +kernel
theorem d_L_law_1699 : decode c_L_law 1699 = .ok (.ldc2_w 79, 3) := by decide +kernel
theorem d_L_law_1702 : decode c_L_law 1702 = .ok (.land, 1) := by decide +kernel
theorem d_L_law_1703 : decode c_L_law 1703 = .ok (.lor, 1) := by decide +kernel
theorem d_L_law_1704 : decode c_L_law 1704 = .ok (.aload_n 0, 1) := by decide +kernel
theorem d_L_law_1705 : decode c_L_law 1705 = .ok (.iload 4, 2) := by decide +kernel
theorem d_L_law_1707 : decode c_L_law 1707 = .ok (.bipush 6, 2) := by decide +kernel
theorem d_L_law_1709 : decode c_L_law 1709 = .ok (.iadd, 1) := by decide +kernel
theorem d_L_law_1710 : decode c_L_law 1710 = .ok (.iaload, 1) := by decide +kernel
theorem d_L_law_1711 : decode c_L_law 1711 = .ok (.invokevirtual 129, 3) := by decide +kernel
theorem d_L_law_1714 : decode c_L_law 1714 = .ok (.lstore 6, 2) := by decide +kernel
theorem d_L_law_1716 : decode c_L_law 1716 = .ok (.aload_n 2, 1) := by decide +kernel
theorem d_L_law_1717 : decode c_L_law 1717 = .ok (.invokevirtual 87, 3) := by decide +kernel
theorem d_L_law_1720 : decode c_L_law 1720 = .ok (.iload 5, 2) := by decide +kernel
theorem d_L_law_1722 : decode c_L_law 1722 = .ok (.if_icmp .eq 5, 3) := by decide +kernel
theorem d_L_law_1725 : decode c_L_law 1725 = .ok (.iconst 0, 1) := by decide +kernel
theorem d_L_law_1726 : decode c_L_law 1726 = .ok (.ireturn, 1) := by decide +kernel
theorem d_L_law_1727 : decode c_L_law 1727 = .ok (.iload 5, 2) := by decide +kernel
theorem d_L_law_1729 : decode c_L_law 1729 = .ok (.ifCond .ne 14, 3) := by decide +kernel
theorem d_L_law_1732 : decode c_L_law 1732 = .ok (.aload_n 3, 1) := by decide +kernel
theorem d_L_law_1733 : decode c_L_law 1733 = .ok (.iconst 0, 1) := by decide +kernel
theorem d_L_law_1734 : decode c_L_law 1734 = .ok (.laload, 1) := by decide +kernel
theorem d_L_law_1735 : decode c_L_law 1735 = .ok (.lload 6, 2) := by decide +kernel
theorem d_L_law_1737 : decode c_L_law 1737 = .ok (.lcmp, 1) := by decide +kernel
theorem d_L_law_1738 : decode c_L_law 1738 = .ok (.ifCond .eq 5, 3) := by decide +kernel
theorem d_L_law_1741 : decode c_L_law 1741 = .ok (.iconst 0, 1) := by decide +kernel
theorem d_L_law_1742 : decode c_L_law 1742 = .ok (.ireturn, 1) := by decide +kernel
theorem d_L_law_1743 : decode c_L_law 1743 = .ok (.goto 271, 3) := by decide +kernel
theorem d_L_law_1746 : decode c_L_law 1746 = .ok (.aload_n 1, 1) := by decide +kernel
theorem d_L_law_1747 : decode c_L_law 1747 = .ok (.aload_n 0, 1) := by decide +kernel
theorem d_L_law_1748 : decode c_L_law 1748 = .ok (.iload 4, 2) := by decide +kernel
theorem d_L_law_1750 : decode c_L_law 1750 = .ok (.iconst 1, 1) := by decide +kernel
theorem d_L_law_1751 : decode c_L_law 1751 = .ok (.iadd, 1) := by decide +kernel
theorem d_L_law_1752 : decode c_L_law 1752 = .ok (.iaload, 1) := by decide +kernel
theorem d_L_law_1753 : decode c_L_law 1753 = .ok (.i2l, 1) := by decide +kernel
theorem d_L_law_1754 : decode c_L_law 1754 = .ok (.bipush 32, 2) := by decide +kernel
theorem d_L_law_1756 : decode c_L_law 1756 = .ok (.lshl, 1) := by decide +kernel
theorem d_L_law_1757 : decode c_L_law 1757 = .ok (.aload_n 0, 1) := by decide +kernel
theorem d_L_law_1758 : decode c_L_law 1758 = .ok (.iload 4, 2) := by decide +kernel
theorem d_L_law_1760 : decode c_L_law 1760 = .ok (.iconst 2, 1) := by decide +kernel
theorem d_L_law_1761 : decode c_L_law 1761 = .ok (.iadd, 1) := by decide +kernel
theorem d_L_law_1762 : decode c_L_law 1762 = .ok (.iaload, 1) := by decide +kernel
theorem d_L_law_1763 : decode c_L_law 1763 = .ok (.i2l, 1) := by decide +kernel
theorem d_L_law_1764 : decode c_L_law 1764 = .ok (.ldc2_w 79, 3) := by decide +kernel
theorem d_L_law_1767 : decode c_L_law 1767 = .ok (.land, 1) := by decide +kernel
theorem d_L_law_1768 : decode c_L_law 1768 = .ok (.lor, 1) := by decide +kernel
theorem d_L_law_1769 : decode c_L_law 1769 = .ok (.aload_n 0, 1) := by decide +kernel
theorem d_L_law_1770 : decode c_L_law 1770 = .ok (.iload 4, 2) := by decide +kernel
theorem d_L_law_1772 : decode c_L_law 1772 = .ok (.iconst 3, 1) := by decide +kernel
theorem d_L_law_1773 : decode c_L_law 1773 = .ok (.iadd, 1) := by decide +kernel
theorem d_L_law_1774 : decode c_L_law 1774 = .ok (.iaload, 1) := by decide +kernel
theorem d_L_law_1775 : decode c_L_law 1775 = .ok (.aload_n 3, 1) := by decide +kernel
theorem d_L_law_1776 : decode c_L_law 1776 = .ok (.invokestatic 130, 3) := by decide +kernel
theorem d_L_law_1779 : decode c_L_law 1779 = .ok (.istore 5, 2) := by decide +kernel
theorem d_L_law_1781 : decode c_L_law 1781 = .ok (.aload_n 2, 1) := by decide +kernel
theorem d_L_law_1782 : decode c_L_law 1782 = .ok (.aload_n 0, 1) := by decide +kernel
theorem d_L_law_1783 : decode c_L_law 1783 = .ok (.iload 4, 2) := by decide +kernel
theorem d_L_law_1785 : decode c_L_law 1785 = .ok (.iconst 1, 1) := by decide +kernel
theorem d_L_law_1786 : decode c_L_law 1786 = .ok (.iadd, 1) := by decide +kernel
theorem d_L_law_1787 : decode c_L_law 1787 = .ok (.iaload, 1) := by decide +kernel
theorem d_L_law_1788 : decode c_L_law 1788 = .ok (.i2l, 1) := by decide +kernel
theorem d_L_law_1789 : decode c_L_law 1789 = .ok (.bipush 32, 2) := by decide +kernel
theorem d_L_law_1791 : decode c_L_law 1791 = .ok (.lshl, 1) := by decide +kernel
theorem d_L_law_1792 : decode c_L_law 1792 = .ok (.aload_n 0, 1) := by decide +kernel
theorem d_L_law_1793 : decode c_L_law 1793 = .ok (.iload 4, 2) := by decide +kernel
theorem d_L_law_1795 : decode c_L_law 1795 = .ok (.iconst 2, 1) := by decide +kernel
theorem d_L_law_1796 : decode c_L_law 1796 = .ok (.iadd, 1) := by decide +kernel
theorem d_L_law_1797 : decode c_L_law 1797 = .ok (.iaload, 1) := by decide +kernel
theorem d_L_law_1798 : decode c_L_law 1798 = .ok (.i2l, 1) := by decide +kernel
theorem d_L_law_1799 : decode c_L_law 1799 = .ok (.ldc2_w 79, 3) := by decide +kernel
theorem d_L_law_1802 : decode c_L_law 1802 = .ok (.land, 1) := by decide +kernel
theorem d_L_law_1803 : decode c_L_law 1803 = .ok (.lor, 1) := by decide +kernel
theorem d_L_law_1804 : decode c_L_law 1804 = .ok (.aload_n 0, 1) := by decide +kernel
theorem d_L_law_1805 : decode c_L_law 1805 = .ok (.iload 4, 2) := by decide +kernel
theorem d_L_law_1807 : decode c_L_law 1807 = .ok (.iconst 3, 1) := by decide +kernel
theorem d_L_law_1808 : decode c_L_law 1808 = .ok (.iadd, 1) := by decide +kernel
theorem d_L_law_1809 : decode c_L_law 1809 = .ok (.iaload, 1) := by decide +kernel
theorem d_L_law_1810 : decode c_L_law 1810 = .ok (.invokevirtual 133, 3) := by decide +kernel
theorem d_L_law_1813 : decode c_L_law 1813 = .ok (.istore 6, 2) := by decide +kernel
theorem d_L_law_1815 : decode c_L_law 1815 = .ok (.aload_n 2, 1) := by decide +kernel
theorem d_L_law_1816 : decode c_L_law 1816 = .ok (.invokevirtual 87, 3) := by decide +kernel
theorem d_L_law_1819 : decode c_L_law 1819 = .ok (.iload 5, 2) := by decide +kernel
theorem d_L_law_1821 : decode c_L_law 1821 = .ok (.if_icmp .eq 5, 3) := by decide +kernel
theorem d_L_law_1824 : decode c_L_law 1824 = .ok (.iconst 0, 1) := by decide +kernel
theorem d_L_law_1825 : decode c_L_law 1825 = .ok (.ireturn, 1) := by decide +kernel
theorem d_L_law_1826 : decode c_L_law 1826 = .ok (.iload 5, 2) := by decide +kernel
theorem d_L_law_1828 : decode c_L_law 1828 = .ok (.ifCond .ne 15, 3) := by decide +kernel
theorem d_L_law_1831 : decode c_L_law 1831 = .ok (.aload_n 3, 1) := by decide +kernel
theorem d_L_law_1832 : decode c_L_law 1832 = .ok (.iconst 0, 1) := by decide +kernel
theorem d_L_law_1833 : decode c_L_law 1833 = .ok (.laload, 1) := by decide +kernel
theorem d_L_law_1834 : decode c_L_law 1834 = .ok (.iload 6, 2) := by decide +kernel
theorem d_L_law_1836 : decode c_L_law 1836 = .ok (.i2l, 1) := by decide +kernel
theorem d_L_law_1837 : decode c_L_law 1837 = .ok (.lcmp, 1) := by decide +kernel
theorem d_L_law_1838 : decode c_L_law 1838 = .ok (.ifCond .eq 5, 3) := by decide +kernel
theorem d_L_law_1841 : decode c_L_law 1841 = .ok (.iconst 0, 1) := by decide +kernel
theorem d_L_law_1842 : decode c_L_law 1842 = .ok (.ireturn, 1) := by decide +kernel
theorem d_L_law_1843 : decode c_L_law 1843 = .ok (.goto 171, 3) := by decide +kernel
theorem d_L_law_1846 : decode c_L_law 1846 = .ok (.aload_n 1, 1) := by decide +kernel
theorem d_L_law_1847 : decode c_L_law 1847 = .ok (.aload_n 0, 1) := by decide +kernel
theorem d_L_law_1848 : decode c_L_law 1848 = .ok (.iload 4, 2) := by decide +kernel
theorem d_L_law_1850 : decode c_L_law 1850 = .ok (.iconst 1, 1) := by decide +kernel
theorem d_L_law_1851 : decode c_L_law 1851 = .ok (.iadd, 1) := by decide +kernel
theorem d_L_law_1852 : decode c_L_law 1852 = .ok (.iaload, 1) := by decide +kernel
theorem d_L_law_1853 : decode c_L_law 1853 = .ok (.aload_n 0, 1) := by decide +kernel
theorem d_L_law_1854 : decode c_L_law 1854 = .ok (.iload 4, 2) := by decide +kernel
theorem d_L_law_1856 : decode c_L_law 1856 = .ok (.iconst 2, 1) := by decide +kernel
theorem d_L_law_1857 : decode c_L_law 1857 = .ok (.iadd, 1) := by decide +kernel
theorem d_L_law_1858 : decode c_L_law 1858 = .ok (.iaload, 1) := by decide +kernel
theorem d_L_law_1859 : decode c_L_law 1859 = .ok (.aload_n 3, 1) := by decide +kernel
theorem d_L_law_1860 : decode c_L_law 1860 = .ok (.invokestatic 134, 3) := by decide +kernel
theorem d_L_law_1863 : decode c_L_law 1863 = .ok (.istore 5, 2) := by decide +kernel
theorem d_L_law_1865 : decode c_L_law 1865 = .ok (.aload_n 2, 1) := by decide +kernel
theorem d_L_law_1866 : decode c_L_law 1866 = .ok (.aload_n 0, 1) := by decide +kernel
theorem d_L_law_1867 : decode c_L_law 1867 = .ok (.iload 4, 2) := by decide +kernel
theorem d_L_law_1869 : decode c_L_law 1869 = .ok (.iconst 1, 1) := by decide +kernel
theorem d_L_law_1870 : decode c_L_law 1870 = .ok (.iadd, 1) := by decide +kernel
theorem d_L_law_1871 : decode c_L_law 1871 = .ok (.iaload, 1) := by decide +kernel
theorem d_L_law_1872 : decode c_L_law 1872 = .ok (.aload_n 0, 1) := by decide +kernel
theorem d_L_law_1873 : decode c_L_law 1873 = .ok (.iload 4, 2) := by decide +kernel
theorem d_L_law_1875 : decode c_L_law 1875 = .ok (.iconst 2, 1) := by decide +kernel
theorem d_L_law_1876 : decode c_L_law 1876 = .ok (.iadd, 1) := by decide +kernel
theorem d_L_law_1877 : decode c_L_law 1877 = .ok (.iaload, 1) := by decide +kernel
theorem d_L_law_1878 : decode c_L_law 1878 = .ok (.invokevirtual 137, 3) := by decide +kernel
theorem d_L_law_1881 : decode c_L_law 1881 = .ok (.istore 6, 2) := by decide +kernel
theorem d_L_law_1883 : decode c_L_law 1883 = .ok (.aload_n 2, 1) := by decide +kernel
theorem d_L_law_1884 : decode c_L_law 1884 = .ok (.invokevirtual 87, 3) := by decide +kernel
theorem d_L_law_1887 : decode c_L_law 1887 = .ok (.iload 5, 2) := by decide +kernel
theorem d_L_law_1889 : decode c_L_law 1889 = .ok (.if_icmp .eq 5, 3) := by decide +kernel
theorem d_L_law_1892 : decode c_L_law 1892 = .ok (.iconst 0, 1) := by decide +kernel
theorem d_L_law_1893 : decode c_L_law 1893 = .ok (.ireturn, 1) := by decide +kernel
theorem d_L_law_1894 : decode c_L_law 1894 = .ok (.iload 5, 2) := by decide +kernel
theorem d_L_law_1896 : decode c_L_law 1896 = .ok (.ifCond .ne 22, 3) := by decide +kernel
theorem d_L_law_1899 : decode c_L_law 1899 = .ok (.aload_n 3, 1) := by decide +kernel
theorem d_L_law_1900 : decode c_L_law 1900 = .ok (.iconst 0, 1) := by decide +kernel
theorem d_L_law_1901 : decode c_L_law 1901 = .ok (.laload, 1) := by decide +kernel
theorem d_L_law_1902 : decode c_L_law 1902 = .ok (.iload 6, 2) := by decide +kernel
theorem d_L_law_1904 : decode c_L_law 1904 = .ok (.ifCond .eq 7, 3) := by decide +kernel
theorem d_L_law_1907 : decode c_L_law 1907 = .ok (.lconst 1, 1) := by decide +kernel
theorem d_L_law_1908 : decode c_L_law 1908 = .ok (.goto 4, 3) := by decide +kernel
theorem d_L_law_1911 : decode c_L_law 1911 = .ok (.lconst 0, 1) := by decide +kernel
theorem d_L_law_1912 : decode c_L_law 1912 = .ok (.lcmp, 1) := by decide +kernel
theorem d_L_law_1913 : decode c_L_law 1913 = .ok (.ifCond .eq 5, 3) := by decide +kernel
theorem d_L_law_1916 : decode c_L_law 1916 = .ok (.iconst 0, 1) := by decide +kernel
theorem d_L_law_1917 : decode c_L_law 1917 = .ok (.ireturn, 1) := by decide +kernel
theorem d_L_law_1918 : decode c_L_law 1918 = .ok (.goto 96, 3) := by decide +kernel
theorem d_L_law_1921 : decode c_L_law 1921 = .ok (.aload_n 1, 1) := by decide +kernel
theorem d_L_law_1922 : decode c_L_law 1922 = .ok (.aload_n 0, 1) := by decide +kernel
theorem d_L_law_1923 : decode c_L_law 1923 = .ok (.iload 4, 2) := by decide +kernel
theorem d_L_law_1925 : decode c_L_law 1925 = .ok (.iconst 1, 1) := by decide +kernel
theorem d_L_law_1926 : decode c_L_law 1926 = .ok (.iadd, 1) := by decide +kernel
theorem d_L_law_1927 : decode c_L_law 1927 = .ok (.iaload, 1) := by decide +kernel
theorem d_L_law_1928 : decode c_L_law 1928 = .ok (.invokevirtual 138, 3) := by decide +kernel
theorem d_L_law_1931 : decode c_L_law 1931 = .ok (.aload_n 2, 1) := by decide +kernel
theorem d_L_law_1932 : decode c_L_law 1932 = .ok (.aload_n 0, 1) := by decide +kernel
theorem d_L_law_1933 : decode c_L_law 1933 = .ok (.iload 4, 2) := by decide +kernel
theorem d_L_law_1935 : decode c_L_law 1935 = .ok (.iconst 1, 1) := by decide +kernel
theorem d_L_law_1936 : decode c_L_law 1936 = .ok (.iadd, 1) := by decide +kernel
theorem d_L_law_1937 : decode c_L_law 1937 = .ok (.iaload, 1) := by decide +kernel
theorem d_L_law_1938 : decode c_L_law 1938 = .ok (.invokevirtual 142, 3) := by decide +kernel
theorem d_L_law_1941 : decode c_L_law 1941 = .ok (.if_icmp .eq 73, 3) := by decide +kernel
theorem d_L_law_1944 : decode c_L_law 1944 = .ok (.iconst 0, 1) := by decide +kernel
theorem d_L_law_1945 : decode c_L_law 1945 = .ok (.ireturn, 1) := by decide +kernel
theorem d_L_law_1946 : decode c_L_law 1946 = .ok (.aload_n 1, 1) := by decide +kernel
theorem d_L_law_1947 : decode c_L_law 1947 = .ok (.aload_n 0, 1) := by decide +kernel
theorem d_L_law_1948 : decode c_L_law 1948 = .ok (.iload 4, 2) := by decide +kernel
theorem d_L_law_1950 : decode c_L_law 1950 = .ok (.iconst 1, 1) := by decide +kernel
theorem d_L_law_1951 : decode c_L_law 1951 = .ok (.iadd, 1) := by decide +kernel
theorem d_L_law_1952 : decode c_L_law 1952 = .ok (.iaload, 1) := by decide +kernel
theorem d_L_law_1953 : decode c_L_law 1953 = .ok (.aload_n 0, 1) := by decide +kernel
theorem d_L_law_1954 : decode c_L_law 1954 = .ok (.iload 4, 2) := by decide +kernel
theorem d_L_law_1956 : decode c_L_law 1956 = .ok (.iconst 2, 1) := by decide +kernel
theorem d_L_law_1957 : decode c_L_law 1957 = .ok (.iadd, 1) := by decide +kernel
theorem d_L_law_1958 : decode c_L_law 1958 = .ok (.iaload, 1) := by decide +kernel
theorem d_L_law_1959 : decode c_L_law 1959 = .ok (.aload_n 3, 1) := by decide +kernel
theorem d_L_law_1960 : decode c_L_law 1960 = .ok (.invokestatic 143, 3) := by decide +kernel
theorem d_L_law_1963 : decode c_L_law 1963 = .ok (.istore 5, 2) := by decide +kernel
theorem d_L_law_1965 : decode c_L_law 1965 = .ok (.aload_n 2, 1) := by decide +kernel
theorem d_L_law_1966 : decode c_L_law 1966 = .ok (.aload_n 0, 1) := by decide +kernel
theorem d_L_law_1967 : decode c_L_law 1967 = .ok (.iload 4, 2) := by decide +kernel
theorem d_L_law_1969 : decode c_L_law 1969 = .ok (.iconst 1, 1) := by decide +kernel
theorem d_L_law_1970 : decode c_L_law 1970 = .ok (.iadd, 1) := by decide +kernel
theorem d_L_law_1971 : decode c_L_law 1971 = .ok (.iaload, 1) := by decide +kernel
theorem d_L_law_1972 : decode c_L_law 1972 = .ok (.aload_n 0, 1) := by decide +kernel
theorem d_L_law_1973 : decode c_L_law 1973 = .ok (.iload 4, 2) := by decide +kernel
theorem d_L_law_1975 : decode c_L_law 1975 = .ok (.iconst 2, 1) := by decide +kernel
theorem d_L_law_1976 : decode c_L_law 1976 = .ok (.iadd, 1) := by decide +kernel
theorem d_L_law_1977 : decode c_L_law 1977 = .ok (.iaload, 1) := by decide +kernel
theorem d_L_law_1978 : decode c_L_law 1978 = .ok (.invokevirtual 145, 3) := by decide +kernel
theorem d_L_law_1981 : decode c_L_law 1981 = .ok (.istore 6, 2) := by decide +kernel
theorem d_L_law_1983 : decode c_L_law 1983 = .ok (.aload_n 2, 1) := by decide +kernel
theorem d_L_law_1984 : decode c_L_law 1984 = .ok (.invokevirtual 87, 3) := by decide +kernel
theorem d_L_law_1987 : decode c_L_law 1987 = .ok (.iload 5, 2) := by decide +kernel
theorem d_L_law_1989 : decode c_L_law 1989 = .ok (.if_icmp .eq 5, 3) := by decide +kernel
theorem d_L_law_1992 : decode c_L_law 1992 = .ok (.iconst 0, 1) := by decide +kernel
theorem d_L_law_1993 : decode c_L_law 1993 = .ok (.ireturn, 1) := by decide +kernel
theorem d_L_law_1994 : decode c_L_law 1994 = .ok (.iload 5, 2) := by decide +kernel
theorem d_L_law_1996 : decode c_L_law 1996 = .ok (.ifCond .ne 15, 3) := by decide +kernel
theorem d_L_law_1999 : decode c_L_law 1999 = .ok (.aload_n 3, 1) := by decide +kernel
theorem d_L_law_2000 : decode c_L_law 2000 = .ok (.iconst 0, 1) := by decide +kernel
theorem d_L_law_2001 : decode c_L_law 2001 = .ok (.laload, 1) := by decide +kernel
theorem d_L_law_2002 : decode c_L_law 2002 = .ok (.iload 6, 2) := by decide +kernel
theorem d_L_law_2004 : decode c_L_law 2004 = .ok (.i2l, 1) := by decide +kernel
theorem d_L_law_2005 : decode c_L_law 2005 = .ok (.lcmp, 1) := by decide +kernel
theorem d_L_law_2006 : decode c_L_law 2006 = .ok (.ifCond .eq 5, 3) := by decide +kernel
theorem d_L_law_2009 : decode c_L_law 2009 = .ok (.iconst 0, 1) := by decide +kernel
theorem d_L_law_2010 : decode c_L_law 2010 = .ok (.ireturn, 1) := by decide +kernel
theorem d_L_law_2011 : decode c_L_law 2011 = .ok (.goto 3, 3) := by decide +kernel
theorem d_L_law_2014 : decode c_L_law 2014 = .ok (.iinc 4 8, 3) := by decide +kernel
theorem d_L_law_2017 : decode c_L_law 2017 = .ok (.goto (-1994), 3) := by decide +kernel
theorem d_L_law_2020 : decode c_L_law 2020 = .ok (.iconst 1, 1) := by decide +kernel
theorem d_L_law_2021 : decode c_L_law 2021 = .ok (.ireturn, 1) := by decide +kernel
theorem d_L_law_40 : decode c_L_law 40 = .ok (.tableswitch 1974 0 16 #[84, 97, 262, 369, 520, 627, 734, 873, 1072, 1167, 1274, 1417, 1549, 1706, 1806, 1881, 1906], 84) := by decide +kernel
