/-! L0: the law: decode rows -/
theorem dL_law_1055 : decode code 1055 = .ok (.iconst 2, 1) := by decide +kernel
theorem dL_law_1056 : decode code 1056 = .ok (.iadd, 1) := by decide +kernel
theorem dL_law_1057 : decode code 1057 = .ok (.iaload, 1) := by decide +kernel
theorem dL_law_1058 : decode code 1058 = .ok (.aload_n 3, 1) := by decide +kernel
theorem dL_law_1059 : decode code 1059 = .ok (.invokestatic 157, 3) := by decide +kernel
theorem dL_law_1062 : decode code 1062 = .ok (.istore 5, 2) := by decide +kernel
theorem dL_law_1064 : decode code 1064 = .ok (.aload_n 2, 1) := by decide +kernel
theorem dL_law_1065 : decode code 1065 = .ok (.aload_n 0, 1) := by decide +kernel
theorem dL_law_1066 : decode code 1066 = .ok (.iload 4, 2) := by decide +kernel
theorem dL_law_1068 : decode code 1068 = .ok (.iconst 1, 1) := by decide +kernel
theorem dL_law_1069 : decode code 1069 = .ok (.iadd, 1) := by decide +kernel
theorem dL_law_1070 : decode code 1070 = .ok (.iaload, 1) := by decide +kernel
theorem dL_law_1071 : decode code 1071 = .ok (.aload_n 0, 1) := by decide +kernel
theorem dL_law_1072 : decode code 1072 = .ok (.iload 4, 2) := by decide +kernel
theorem dL_law_1074 : decode code 1074 = .ok (.iconst 2, 1) := by decide +kernel
theorem dL_law_1075 : decode code 1075 = .ok (.iadd, 1) := by decide +kernel
theorem dL_law_1076 : decode code 1076 = .ok (.iaload, 1) := by decide +kernel
theorem dL_law_1077 : decode code 1077 = .ok (.invokevirtual 159, 3) := by decide +kernel
theorem dL_law_1080 : decode code 1080 = .ok (.istore 6, 2) := by decide +kernel
theorem dL_law_1082 : decode code 1082 = .ok (.aload_n 2, 1) := by decide +kernel
theorem dL_law_1083 : decode code 1083 = .ok (.invokevirtual 112, 3) := by decide +kernel
theorem dL_law_1086 : decode code 1086 = .ok (.iload 5, 2) := by decide +kernel
theorem dL_law_1088 : decode code 1088 = .ok (.if_icmp .eq 5, 3) := by decide +kernel
theorem dL_law_1091 : decode code 1091 = .ok (.iconst 0, 1) := by decide +kernel
theorem dL_law_1092 : decode code 1092 = .ok (.ireturn, 1) := by decide +kernel
theorem dL_law_1093 : decode code 1093 = .ok (.iload 5, 2) := by decide +kernel
theorem dL_law_1095 : decode code 1095 = .ok (.ifCond .ne 15, 3) := by decide +kernel
theorem dL_law_1098 : decode code 1098 = .ok (.aload_n 3, 1) := by decide +kernel
theorem dL_law_1099 : decode code 1099 = .ok (.iconst 0, 1) := by decide +kernel
theorem dL_law_1100 : decode code 1100 = .ok (.laload, 1) := by decide +kernel
theorem dL_law_1101 : decode code 1101 = .ok (.iload 6, 2) := by decide +kernel
theorem dL_law_1103 : decode code 1103 = .ok (.i2l, 1) := by decide +kernel
theorem dL_law_1104 : decode code 1104 = .ok (.lcmp, 1) := by decide +kernel
theorem dL_law_1105 : decode code 1105 = .ok (.ifCond .eq 5, 3) := by decide +kernel
theorem dL_law_1108 : decode code 1108 = .ok (.iconst 0, 1) := by decide +kernel
theorem dL_law_1109 : decode code 1109 = .ok (.ireturn, 1) := by decide +kernel
theorem dL_law_1110 : decode code 1110 = .ok (.goto 878, 3) := by decide +kernel
theorem dL_law_1113 : decode code 1113 = .ok (.aload_n 1, 1) := by decide +kernel
theorem dL_law_1114 : decode code 1114 = .ok (.aload_n 0, 1) := by decide +kernel
theorem dL_law_1115 : decode code 1115 = .ok (.iload 4, 2) := by decide +kernel
theorem dL_law_1117 : decode code 1117 = .ok (.iconst 1, 1) := by decide +kernel
theorem dL_law_1118 : decode code 1118 = .ok (.iadd, 1) := by decide +kernel
theorem dL_law_1119 : decode code 1119 = .ok (.iaload, 1) := by decide +kernel
theorem dL_law_1120 : decode code 1120 = .ok (.aload_n 0, 1) := by decide +kernel
theorem dL_law_1121 : decode code 1121 = .ok (.iload 4, 2) := by decide +kernel
theorem dL_law_1123 : decode code 1123 = .ok (.iconst 2, 1) := by decide +kernel
theorem dL_law_1124 : decode code 1124 = .ok (.iadd, 1) := by decide +kernel
theorem dL_law_1125 : decode code 1125 = .ok (.iaload, 1) := by decide +kernel
theorem dL_law_1126 : decode code 1126 = .ok (.aload_n 0, 1) := by decide +kernel
theorem dL_law_1127 : decode code 1127 = .ok (.iload 4, 2) := by decide +kernel
theorem dL_law_1129 : decode code 1129 = .ok (.iconst 3, 1) := by decide +kernel
theorem dL_law_1130 : decode code 1130 = .ok (.iadd, 1) := by decide +kernel
theorem dL_law_1131 : decode code 1131 = .ok (.iaload, 1) := by decide +kernel
theorem dL_law_1132 : decode code 1132 = .ok (.aload_n 3, 1) := by decide +kernel
theorem dL_law_1133 : decode code 1133 = .ok (.invokestatic 160, 3) := by decide +kernel
theorem dL_law_1136 : decode code 1136 = .ok (.istore 5, 2) := by decide +kernel
theorem dL_law_1138 : decode code 1138 = .ok (.aload_n 2, 1) := by decide +kernel
theorem dL_law_1139 : decode code 1139 = .ok (.aload_n 0, 1) := by decide +kernel
theorem dL_law_1140 : decode code 1140 = .ok (.iload 4, 2) := by decide +kernel
theorem dL_law_1142 : decode code 1142 = .ok (.iconst 1, 1) := by decide +kernel
theorem dL_law_1143 : decode code 1143 = .ok (.iadd, 1) := by decide +kernel
theorem dL_law_1144 : decode code 1144 = .ok (.iaload, 1) := by decide +kernel
theorem dL_law_1145 : decode code 1145 = .ok (.aload_n 0, 1) := by decide +kernel
theorem dL_law_1146 : decode code 1146 = .ok (.iload 4, 2) := by decide +kernel
theorem dL_law_1148 : decode code 1148 = .ok (.iconst 2, 1) := by decide +kernel
theorem dL_law_1149 : decode code 1149 = .ok (.iadd, 1) := by decide +kernel
theorem dL_law_1150 : decode code 1150 = .ok (.iaload, 1) := by decide +kernel
theorem dL_law_1151 : decode code 1151 = .ok (.aload_n 0, 1) := by decide +kernel
theorem dL_law_1152 : decode code 1152 = .ok (.iload 4, 2) := by decide +kernel
theorem dL_law_1154 : decode code 1154 = .ok (.iconst 3, 1) := by decide +kernel
theorem dL_law_1155 : decode code 1155 = .ok (.iadd, 1) := by decide +kernel
theorem dL_law_1156 : decode code 1156 = .ok (.iaload, 1) := by decide +kernel
theorem dL_law_1157 : decode code 1157 = .ok (.invokevirtual 162, 3) := by decide +kernel
theorem dL_law_1160 : decode code 1160 = .ok (.istore 6, 2) := by decide +kernel
theorem dL_law_1162 : decode code 1162 = .ok (.aload_n 2, 1) := by decide +kernel
theorem dL_law_1163 : decode code 1163 = .ok (.invokevirtual 112, 3) := by decide +kernel
theorem dL_law_1166 : decode code 1166 = .ok (.iload 5, 2) := by decide +kernel
theorem dL_law_1168 : decode code 1168 = .ok (.if_icmp .eq 5, 3) := by decide +kernel
theorem dL_law_1171 : decode code 1171 = .ok (.iconst 0, 1) := by decide +kernel
theorem dL_law_1172 : decode code 1172 = .ok (.ireturn, 1) := by decide +kernel
theorem dL_law_1173 : decode code 1173 = .ok (.iload 5, 2) := by decide +kernel
theorem dL_law_1175 : decode code 1175 = .ok (.ifCond .ne 15, 3) := by decide +kernel
theorem dL_law_1178 : decode code 1178 = .ok (.aload_n 3, 1) := by decide +kernel
theorem dL_law_1179 : decode code 1179 = .ok (.iconst 0, 1) := by decide +kernel
theorem dL_law_1180 : decode code 1180 = .ok (.laload, 1) := by decide +kernel
theorem dL_law_1181 : decode code 1181 = .ok (.iload 6, 2) := by decide +kernel
theorem dL_law_1183 : decode code 1183 = .ok (.i2l, 1) := by decide +kernel
theorem dL_law_1184 : decode code 1184 = .ok (.lcmp, 1) := by decide +kernel
theorem dL_law_1185 : decode code 1185 = .ok (.ifCond .eq 5, 3) := by decide +kernel
theorem dL_law_1188 : decode code 1188 = .ok (.iconst 0, 1) := by decide +kernel
theorem dL_law_1189 : decode code 1189 = .ok (.ireturn, 1) := by decide +kernel
theorem dL_law_1190 : decode code 1190 = .ok (.goto 798, 3) := by decide +kernel
theorem dL_law_1193 : decode code 1193 = .ok (.aload_n 1, 1) := by decide +kernel
theorem dL_law_1194 : decode code 1194 = .ok (.aload_n 0, 1) := by decide +kernel
theorem dL_law_1195 : decode code 1195 = .ok (.iload 4, 2) := by decide +kernel
theorem dL_law_1197 : decode code 1197 = .ok (.iconst 1, 1) := by decide +kernel
theorem dL_law_1198 : decode code 1198 = .ok (.iadd, 1) := by decide +kernel
theorem dL_law_1199 : decode code 1199 = .ok (.iaload, 1) := by decide +kernel
theorem dL_law_1200 : decode code 1200 = .ok (.aload_n 0, 1) := by decide +kernel
theorem dL_law_1201 : decode code 1201 = .ok (.iload 4, 2) := by decide +kernel
theorem dL_law_1203 : decode code 1203 = .ok (.iconst 2, 1) := by decide +kernel
theorem dL_law_1204 : decode code 1204 = .ok (.iadd, 1) := by decide +kernel
theorem dL_law_1205 : decode code 1205 = .ok (.iaload, 1) := by decide +kernel
theorem dL_law_1206 : decode code 1206 = .ok (.aload_n 3, 1) := by decide +kernel
theorem dL_law_1207 : decode code 1207 = .ok (.invokestatic 163, 3) := by decide +kernel
theorem dL_law_1210 : decode code 1210 = .ok (.istore 5, 2) := by decide +kernel
theorem dL_law_1212 : decode code 1212 = .ok (.aload_n 2, 1) := by decide +kernel
theorem dL_law_1213 : decode code 1213 = .ok (.aload_n 0, 1) := by decide +kernel
theorem dL_law_1214 : decode code 1214 = .ok (.iload 4, 2) := by decide +kernel
theorem dL_law_1216 : decode code 1216 = .ok (.iconst 1, 1) := by decide +kernel
theorem dL_law_1217 : decode code 1217 = .ok (.iadd, 1) := by decide +kernel
theorem dL_law_1218 : decode code 1218 = .ok (.iaload, 1) := by decide +kernel
theorem dL_law_1219 : decode code 1219 = .ok (.aload_n 0, 1) := by decide +kernel
theorem dL_law_1220 : decode code 1220 = .ok (.iload 4, 2) := by decide +kernel
theorem dL_law_1222 : decode code 1222 = .ok (.iconst 2, 1) := by decide +kernel
theorem dL_law_1223 : decode code 1223 = .ok (.iadd, 1) := by decide +kernel
theorem dL_law_1224 : decode code 1224 = .ok (.iaload, 1) := by decide +kernel
theorem dL_law_1225 : decode code 1225 = .ok (.invokevirtual 165, 3) := by decide +kernel
theorem dL_law_1228 : decode code 1228 = .ok (.istore 6, 2) := by decide +kernel
theorem dL_law_1230 : decode code 1230 = .ok (.aload_n 2, 1) := by decide +kernel
theorem dL_law_1231 : decode code 1231 = .ok (.invokevirtual 112, 3) := by decide +kernel
theorem dL_law_1234 : decode code 1234 = .ok (.iload 5, 2) := by decide +kernel
theorem dL_law_1236 : decode code 1236 = .ok (.if_icmp .eq 5, 3) := by decide +kernel
theorem dL_law_1239 : decode code 1239 = .ok (.iconst 0, 1) := by decide +kernel
theorem dL_law_1240 : decode code 1240 = .ok (.ireturn, 1) := by decide +kernel
theorem dL_law_1241 : decode code 1241 = .ok (.iload 5, 2) := by decide +kernel
theorem dL_law_1243 : decode code 1243 = .ok (.ifCond .ne 15, 3) := by decide +kernel
theorem dL_law_1246 : decode code 1246 = .ok (.aload_n 3, 1) := by decide +kernel
theorem dL_law_1247 : decode code 1247 = .ok (.iconst 0, 1) := by decide +kernel
theorem dL_law_1248 : decode code 1248 = .ok (.laload, 1) := by decide +kernel
theorem dL_law_1249 : decode code 1249 = .ok (.iload 6, 2) := by decide +kernel
theorem dL_law_1251 : decode code 1251 = .ok (.i2l, 1) := by decide +kernel
theorem dL_law_1252 : decode code 1252 = .ok (.lcmp, 1) := by decide +kernel
theorem dL_law_1253 : decode code 1253 = .ok (.ifCond .eq 5, 3) := by decide +kernel
theorem dL_law_1256 : decode code 1256 = .ok (.iconst 0, 1) := by decide +kernel
theorem dL_law_1257 : decode code 1257 = .ok (.ireturn, 1) := by decide +kernel
theorem dL_law_1258 : decode code 1258 = .ok (.goto 730, 3) := by decide +kernel
theorem dL_law_1261 : decode code 1261 = .ok (.aload_n 1, 1) := by decide +kernel
theorem dL_law_1262 : decode code 1262 = .ok (.aload_n 0, 1) := by decide +kernel
theorem dL_law_1263 : decode code 1263 = .ok (.iload 4, 2) := by decide +kernel
theorem dL_law_1265 : decode code 1265 = .ok (.iconst 1, 1) := by decide +kernel
theorem dL_law_1266 : decode code 1266 = .ok (.iadd, 1) := by decide +kernel
theorem dL_law_1267 : decode code 1267 = .ok (.iaload, 1) := by decide +kernel
theorem dL_law_1268 : decode code 1268 = .ok (.aload_n 0, 1) := by decide +kernel
theorem dL_law_1269 : decode code 1269 = .ok (.iload 4, 2) := by decide +kernel
theorem dL_law_1271 : decode code 1271 = .ok (.iconst 2, 1) := by decide +kernel
theorem dL_law_1272 : decode code 1272 = .ok (.iadd, 1) := by decide +kernel
theorem dL_law_1273 : decode code 1273 = .ok (.iaload, 1) := by decide +kernel
theorem dL_law_1274 : decode code 1274 = .ok (.aload_n 3, 1) := by decide +kernel
theorem dL_law_1275 : decode code 1275 = .ok (.invokestatic 166, 3) := by decide +kernel
theorem dL_law_1278 : decode code 1278 = .ok (.istore 5, 2) := by decide +kernel
theorem dL_law_1280 : decode code 1280 = .ok (.aload_n 2, 1) := by decide +kernel
theorem dL_law_1281 : decode code 1281 = .ok (.aload_n 0, 1) := by decide +kernel
theorem dL_law_1282 : decode code 1282 = .ok (.iload 4, 2) := by decide +kernel
theorem dL_law_1284 : decode code 1284 = .ok (.iconst 1, 1) := by decide +kernel
theorem dL_law_1285 : decode code 1285 = .ok (.iadd, 1) := by decide +kernel
theorem dL_law_1286 : decode code 1286 = .ok (.iaload, 1) := by decide +kernel
theorem dL_law_1287 : decode code 1287 = .ok (.aload_n 0, 1) := by decide +kernel
theorem dL_law_1288 : decode code 1288 = .ok (.iload 4, 2) := by decide +kernel
theorem dL_law_1290 : decode code 1290 = .ok (.iconst 2, 1) := by decide +kernel
theorem dL_law_1291 : decode code 1291 = .ok (.iadd, 1) := by decide +kernel
theorem dL_law_1292 : decode code 1292 = .ok (.iaload, 1) := by decide +kernel
theorem dL_law_1293 : decode code 1293 = .ok (.invokevirtual 168, 3) := by decide +kernel
theorem dL_law_1296 : decode code 1296 = .ok (.istore 6, 2) := by decide +kernel
theorem dL_law_1298 : decode code 1298 = .ok (.aload_n 2, 1) := by decide +kernel
theorem dL_law_1299 : decode code 1299 = .ok (.invokevirtual 112, 3) := by decide +kernel
theorem dL_law_1302 : decode code 1302 = .ok (.iload 5, 2) := by decide +kernel
theorem dL_law_1304 : decode code 1304 = .ok (.if_icmp .eq 5, 3) := by decide +kernel
theorem dL_law_1307 : decode code 1307 = .ok (.iconst 0, 1) := by decide +kernel
theorem dL_law_1308 : decode code 1308 = .ok (.ireturn, 1) := by decide +kernel
theorem dL_law_1309 : decode code 1309 = .ok (.iload 5, 2) := by decide +kernel
theorem dL_law_1311 : decode code 1311 = .ok (.ifCond .ne 15, 3) := by decide +kernel
theorem dL_law_1314 : decode code 1314 = .ok (.aload_n 3, 1) := by decide +kernel
theorem dL_law_1315 : decode code 1315 = .ok (.iconst 0, 1) := by decide +kernel
theorem dL_law_1316 : decode code 1316 = .ok (.laload, 1) := by decide +kernel
theorem dL_law_1317 : decode code 1317 = .ok (.iload 6, 2) := by decide +kernel
theorem dL_law_1319 : decode code 1319 = .ok (.i2l, 1) := by decide +kernel
theorem dL_law_1320 : decode code 1320 = .ok (.lcmp, 1) := by decide +kernel
theorem dL_law_1321 : decode code 1321 = .ok (.ifCond .eq 5, 3) := by decide +kernel
theorem dL_law_1324 : decode code 1324 = .ok (.iconst 0, 1) := by decide +kernel
theorem dL_law_1325 : decode code 1325 = .ok (.ireturn, 1) := by decide +kernel
theorem dL_law_1326 : decode code 1326 = .ok (.goto 662, 3) := by decide +kernel
theorem dL_law_1329 : decode code 1329 = .ok (.aload_n 1, 1) := by decide +kernel
theorem dL_law_1330 : decode code 1330 = .ok (.aload_n 0, 1) := by decide +kernel
theorem dL_law_1331 : decode code 1331 = .ok (.iload 4, 2) := by decide +kernel
theorem dL_law_1333 : decode code 1333 = .ok (.iconst 1, 1) := by decide +kernel
theorem dL_law_1334 : decode code 1334 = .ok (.iadd, 1) := by decide +kernel
theorem dL_law_1335 : decode code 1335 = .ok (.iaload, 1) := by decide +kernel
theorem dL_law_1336 : decode code 1336 = .ok (.invokevirtual 169, 3) := by decide +kernel
theorem dL_law_1339 : decode code 1339 = .ok (.aload_n 2, 1) := by decide +kernel
theorem dL_law_1340 : decode code 1340 = .ok (.aload_n 0, 1) := by decide +kernel
theorem dL_law_1341 : decode code 1341 = .ok (.iload 4, 2) := by decide +kernel
theorem dL_law_1343 : decode code 1343 = .ok (.iconst 1, 1) := by decide +kernel
theorem dL_law_1344 : decode code 1344 = .ok (.iadd, 1) := by decide +kernel
theorem dL_law_1345 : decode code 1345 = .ok (.iaload, 1) := by decide +kernel
theorem dL_law_1346 : decode code 1346 = .ok (.invokevirtual 172, 3) := by decide +kernel
theorem dL_law_1349 : decode code 1349 = .ok (.if_icmp .eq 639, 3) := by decide +kernel
theorem dL_law_1352 : decode code 1352 = .ok (.iconst 0, 1) := by decide +kernel
theorem dL_law_1353 : decode code 1353 = .ok (.ireturn, 1) := by decide +kernel
theorem dL_law_1354 : decode code 1354 = .ok (.aload_n 1, 1) := by decide +kernel
theorem dL_law_1355 : decode code 1355 = .ok (.aload_n 0, 1) := by decide +kernel
theorem dL_law_1356 : decode code 1356 = .ok (.iload 4, 2) := by decide +kernel
theorem dL_law_1358 : decode code 1358 = .ok (.iconst 1, 1) := by decide +kernel
theorem dL_law_1359 : decode code 1359 = .ok (.iadd, 1) := by decide +kernel
theorem dL_law_1360 : decode code 1360 = .ok (.iaload, 1) := by decide +kernel
theorem dL_law_1361 : decode code 1361 = .ok (.ifCond .eq 7, 3) := by decide +kernel
theorem dL_law_1364 : decode code 1364 = .ok (.iconst 1, 1) := by decide +kernel
theorem dL_law_1365 : decode code 1365 = .ok (.goto 4, 3) := by decide +kernel
theorem dL_law_1368 : decode code 1368 = .ok (.iconst 0, 1) := by decide +kernel
theorem dL_law_1369 : decode code 1369 = .ok (.invokevirtual 173, 3) := by decide +kernel
theorem dL_law_1372 : decode code 1372 = .ok (.aload_n 2, 1) := by decide +kernel
theorem dL_law_1373 : decode code 1373 = .ok (.aload_n 0, 1) := by decide +kernel
theorem dL_law_1374 : decode code 1374 = .ok (.iload 4, 2) := by decide +kernel
theorem dL_law_1376 : decode code 1376 = .ok (.iconst 1, 1) := by decide +kernel
theorem dL_law_1377 : decode code 1377 = .ok (.iadd, 1) := by decide +kernel
theorem dL_law_1378 : decode code 1378 = .ok (.iaload, 1) := by decide +kernel
theorem dL_law_1379 : decode code 1379 = .ok (.ifCond .eq 7, 3) := by decide +kernel
theorem dL_law_1382 : decode code 1382 = .ok (.iconst 1, 1) := by decide +kernel
theorem dL_law_1383 : decode code 1383 = .ok (.goto 4, 3) := by decide +kernel
theorem dL_law_1386 : decode code 1386 = .ok (.iconst 0, 1) := by decide +kernel
theorem dL_law_1387 : decode code 1387 = .ok (.invokevirtual 177, 3) := by decide +kernel
theorem dL_law_1390 : decode code 1390 = .ok (.if_icmp .eq 598, 3) := by decide +kernel
theorem dL_law_1393 : decode code 1393 = .ok (.iconst 0, 1) := by decide +kernel
theorem dL_law_1394 : decode code 1394 = .ok (.ireturn, 1) := by decide +kernel
theorem dL_law_1395 : decode code 1395 = .ok (.aload_n 1, 1) := by decide +kernel
theorem dL_law_1396 : decode code 1396 = .ok (.aload_n 0, 1) := by decide +kernel
theorem dL_law_1397 : decode code 1397 = .ok (.iload 4, 2) := by decide +kernel
theorem dL_law_1399 : decode code 1399 = .ok (.iconst 1, 1) := by decide +kernel
theorem dL_law_1400 : decode code 1400 = .ok (.iadd, 1) := by decide +kernel
theorem dL_law_1401 : decode code 1401 = .ok (.iaload, 1) := by decide +kernel
theorem dL_law_1402 : decode code 1402 = .ok (.ifCond .eq 7, 3) := by decide +kernel
theorem dL_law_1405 : decode code 1405 = .ok (.iconst 1, 1) := by decide +kernel
theorem dL_law_1406 : decode code 1406 = .ok (.goto 4, 3) := by decide +kernel
theorem dL_law_1409 : decode code 1409 = .ok (.iconst 0, 1) := by decide +kernel
theorem dL_law_1410 : decode code 1410 = .ok (.invokevirtual 178, 3) := by decide +kernel
theorem dL_law_1413 : decode code 1413 = .ok (.aload_n 2, 1) := by decide +kernel
theorem dL_law_1414 : decode code 1414 = .ok (.aload_n 0, 1) := by decide +kernel
theorem dL_law_1415 : decode code 1415 = .ok (.iload 4, 2) := by decide +kernel
theorem dL_law_1417 : decode code 1417 = .ok (.iconst 1, 1) := by decide +kernel
theorem dL_law_1418 : decode code 1418 = .ok (.iadd, 1) := by decide +kernel
theorem dL_law_1419 : decode code 1419 = .ok (.iaload, 1) := by decide +kernel
theorem dL_law_1420 : decode code 1420 = .ok (.ifCond .eq 7, 3) := by decide +kernel
theorem dL_law_1423 : decode code 1423 = .ok (.iconst 1, 1) := by decide +kernel
theorem dL_law_1424 : decode code 1424 = .ok (.goto 4, 3) := by decide +kernel
theorem dL_law_1427 : decode code 1427 = .ok (.iconst 0, 1) := by decide +kernel
theorem dL_law_1428 : decode code 1428 = .ok (.invokevirtual 181, 3) := by decide +kernel
theorem dL_law_1431 : decode code 1431 = .ok (.if_icmp .eq 557, 3) := by decide +kernel
theorem dL_law_1434 : decode code 1434 = .ok (.iconst 0, 1) := by decide +kernel
theorem dL_law_1435 : decode code 1435 = .ok (.ireturn, 1) := by decide +kernel
theorem dL_law_1436 : decode code 1436 = .ok (.aload_n 1, 1) := by decide +kernel
theorem dL_law_1437 : decode code 1437 = .ok (.aload_n 0, 1) := by decide +kernel
theorem dL_law_1438 : decode code 1438 = .ok (.iload 4, 2) := by decide +kernel
theorem dL_law_1440 : decode code 1440 = .ok (.iconst 1, 1) := by decide +kernel
theorem dL_law_1441 : decode code 1441 = .ok (.iadd, 1) := by decide +kernel
theorem dL_law_1442 : decode code 1442 = .ok (.iaload, 1) := by decide +kernel
theorem dL_law_1443 : decode code 1443 = .ok (.aload_n 3, 1) := by decide +kernel
theorem dL_law_1444 : decode code 1444 = .ok (.invokestatic 182, 3) := by decide +kernel
theorem dL_law_1447 : decode code 1447 = .ok (.istore 5, 2) := by decide +kernel
theorem dL_law_1449 : decode code 1449 = .ok (.aload_n 2, 1) := by decide +kernel
theorem dL_law_1450 : decode code 1450 = .ok (.aload_n 0, 1) := by decide +kernel
theorem dL_law_1451 : decode code 1451 = .ok (.iload 4, 2) := by decide +kernel
theorem dL_law_1453 : decode code 1453 = .ok (.iconst 1, 1) := by decide +kernel
theorem dL_law_1454 : decode code 1454 = .ok (.iadd, 1) := by decide +kernel
theorem dL_law_1455 : decode code 1455 = .ok (.iaload, 1) := by decide +kernel
theorem dL_law_1456 : decode code 1456 = .ok (.invokevirtual 184, 3) := by decide +kernel
theorem dL_law_1459 : decode code 1459 = .ok (.istore 6, 2) := by decide +kernel
theorem dL_law_1461 : decode code 1461 = .ok (.aload_n 2, 1) := by decide +kernel
theorem dL_law_1462 : decode code 1462 = .ok (.invokevirtual 112, 3) := by decide +kernel
theorem dL_law_1465 : decode code 1465 = .ok (.iload 5, 2) := by decide +kernel
theorem dL_law_1467 : decode code 1467 = .ok (.if_icmp .eq 5, 3) := by decide +kernel
theorem dL_law_1470 : decode code 1470 = .ok (.iconst 0, 1) := by decide +kernel
theorem dL_law_1471 : decode code 1471 = .ok (.ireturn, 1) := by decide +kernel
theorem dL_law_1472 : decode code 1472 = .ok (.iload 5, 2) := by decide +kernel
theorem dL_law_1474 : decode code 1474 = .ok (.ifCond .ne 15, 3) := by decide +kernel
theorem dL_law_1477 : decode code 1477 = .ok (.aload_n 3, 1) := by decide +kernel
theorem dL_law_1478 : decode code 1478 = .ok (.iconst 0, 1) := by decide +kernel
theorem dL_law_1479 : decode code 1479 = .ok (.laload, 1) := by decide +kernel
theorem dL_law_1480 : decode code 1480 = .ok (.iload 6, 2) := by decide +kernel
theorem dL_law_1482 : decode code 1482 = .ok (.i2l, 1) := by decide +kernel
theorem dL_law_1483 : decode code 1483 = .ok (.lcmp, 1) := by decide +kernel
theorem dL_law_1484 : decode code 1484 = .ok (.ifCond .eq 5, 3) := by decide +kernel
theorem dL_law_1487 : decode code 1487 = .ok (.iconst 0, 1) := by decide +kernel
theorem dL_law_1488 : decode code 1488 = .ok (.ireturn, 1) := by decide +kernel
theorem dL_law_1489 : decode code 1489 = .ok (.goto 499, 3) := by decide +kernel
theorem dL_law_1492 : decode code 1492 = .ok (.aload_n 1, 1) := by decide +kernel
theorem dL_law_1493 : decode code 1493 = .ok (.aload_n 0, 1) := by decide +kernel
theorem dL_law_1494 : decode code 1494 = .ok (.iload 4, 2) := by decide +kernel
theorem dL_law_1496 : decode code 1496 = .ok (.iconst 1, 1) := by decide +kernel
theorem dL_law_1497 : decode code 1497 = .ok (.iadd, 1) := by decide +kernel
theorem dL_law_1498 : decode code 1498 = .ok (.iaload, 1) := by decide +kernel
theorem dL_law_1499 : decode code 1499 = .ok (.aload_n 3, 1) := by decide +kernel
theorem dL_law_1500 : decode code 1500 = .ok (.invokestatic 185, 3) := by decide +kernel
theorem dL_law_1503 : decode code 1503 = .ok (.istore 5, 2) := by decide +kernel
theorem dL_law_1505 : decode code 1505 = .ok (.aload_n 2, 1) := by decide +kernel
theorem dL_law_1506 : decode code 1506 = .ok (.aload_n 0, 1) := by decide +kernel
theorem dL_law_1507 : decode code 1507 = .ok (.iload 4, 2) := by decide +kernel
theorem dL_law_1509 : decode code 1509 = .ok (.iconst 1, 1) := by decide +kernel
theorem dL_law_1510 : decode code 1510 = .ok (.iadd, 1) := by decide +kernel
theorem dL_law_1511 : decode code 1511 = .ok (.iaload, 1) := by decide +kernel
theorem dL_law_1512 : decode code 1512 = .ok (.invokevirtual 187, 3) := by decide +kernel
theorem dL_law_1515 : decode code 1515 = .ok (.istore 6, 2) := by decide +kernel
theorem dL_law_1517 : decode code 1517 = .ok (.aload_n 2, 1) := by decide +kernel
theorem dL_law_1518 : decode code 1518 = .ok (.invokevirtual 112, 3) := by decide +kernel
theorem dL_law_1521 : decode code 1521 = .ok (.iload 5, 2) := by decide +kernel
theorem dL_law_1523 : decode code 1523 = .ok (.if_icmp .eq 5, 3) := by decide +kernel
theorem dL_law_1526 : decode code 1526 = .ok (.iconst 0, 1) := by decide +kernel
theorem dL_law_1527 : decode code 1527 = .ok (.ireturn, 1) := by decide +kernel
theorem dL_law_1528 : decode code 1528 = .ok (.iload 5, 2) := by decide +kernel
theorem dL_law_1530 : decode code 1530 = .ok (.ifCond .ne 15, 3) := by decide +kernel
theorem dL_law_1533 : decode code 1533 = .ok (.aload_n 3, 1) := by decide +kernel
theorem dL_law_1534 : decode code 1534 = .ok (.iconst 0, 1) := by decide +kernel
theorem dL_law_1535 : decode code 1535 = .ok (.laload, 1) := by decide +kernel
theorem dL_law_1536 : decode code 1536 = .ok (.iload 6, 2) := by decide +kernel
theorem dL_law_1538 : decode code 1538 = .ok (.i2l, 1) := by decide +kernel
theorem dL_law_1539 : decode code 1539 = .ok (.lcmp, 1) := by decide +kernel
theorem dL_law_1540 : decode code 1540 = .ok (.ifCond .eq 5, 3) := by decide +kernel
theorem dL_law_1543 : decode code 1543 = .ok (.iconst 0, 1) := by decide +kernel
theorem dL_law_1544 : decode code 1544 = .ok (.ireturn, 1) := by decide +kernel
theorem dL_law_1545 : decode code 1545 = .ok (.goto 443, 3) := by decide +kernel
theorem dL_law_1548 : decode code 1548 = .ok (.aload_n 1, 1) := by decide +kernel
theorem dL_law_1549 : decode code 1549 = .ok (.aload_n 0, 1) := by decide +kernel
theorem dL_law_1550 : decode code 1550 = .ok (.iload 4, 2) := by decide +kernel
theorem dL_law_1552 : decode code 1552 = .ok (.iconst 1, 1) := by decide +kernel
theorem dL_law_1553 : decode code 1553 = .ok (.iadd, 1) := by decide +kernel
theorem dL_law_1554 : decode code 1554 = .ok (.iaload, 1) := by decide +kernel
theorem dL_law_1555 : decode code 1555 = .ok (.aload_n 3, 1) := by decide +kernel
theorem dL_law_1556 : decode code 1556 = .ok (.invokestatic 188, 3) := by decide +kernel
theorem dL_law_1559 : decode code 1559 = .ok (.istore 5, 2) := by decide +kernel
theorem dL_law_1561 : decode code 1561 = .ok (.aload_n 2, 1) := by decide +kernel
theorem dL_law_1562 : decode code 1562 = .ok (.aload_n 0, 1) := by decide +kernel
theorem dL_law_1563 : decode code 1563 = .ok (.iload 4, 2) := by decide +kernel
theorem dL_law_1565 : decode code 1565 = .ok (.iconst 1, 1) := by decide +kernel
theorem dL_law_1566 : decode code 1566 = .ok (.iadd, 1) := by decide +kernel
theorem dL_law_1567 : decode code 1567 = .ok (.iaload, 1) := by decide +kernel
theorem dL_law_1568 : decode code 1568 = .ok (.invokevirtual 190, 3) := by decide +kernel
theorem dL_law_1571 : decode code 1571 = .ok (.istore 6, 2) := by decide +kernel
theorem dL_law_1573 : decode code 1573 = .ok (.aload_n 2, 1) := by decide +kernel
theorem dL_law_1574 : decode code 1574 = .ok (.invokevirtual 112, 3) := by decide +kernel
theorem dL_law_1577 : decode code 1577 = .ok (.iload 5, 2) := by decide +kernel
theorem dL_law_1579 : decode code 1579 = .ok (.if_icmp .eq 5, 3) := by decide +kernel
theorem dL_law_1582 : decode code 1582 = .ok (.iconst 0, 1) := by decide +kernel
theorem dL_law_1583 : decode code 1583 = .ok (.ireturn, 1) := by decide +kernel
theorem dL_law_1584 : decode code 1584 = .ok (.iload 5, 2) := by decide +kernel
theorem dL_law_1586 : decode code 1586 = .ok (.ifCond .ne 15, 3) := by decide +kernel
theorem dL_law_1589 : decode code 1589 = .ok (.aload_n 3, 1) := by decide +kernel
theorem dL_law_1590 : decode code 1590 = .ok (.iconst 0, 1) := by decide +kernel
theorem dL_law_1591 : decode code 1591 = .ok (.laload, 1) := by decide +kernel
theorem dL_law_1592 : decode code 1592 = .ok (.iload 6, 2) := by decide +kernel
theorem dL_law_1594 : decode code 1594 = .ok (.i2l, 1) := by decide +kernel
theorem dL_law_1595 : decode code 1595 = .ok (.lcmp, 1) := by decide +kernel
theorem dL_law_1596 : decode code 1596 = .ok (.ifCond .eq 5, 3) := by decide +kernel
theorem dL_law_1599 : decode code 1599 = .ok (.iconst 0, 1) := by decide +kernel
theorem dL_law_1600 : decode code 1600 = .ok (.ireturn, 1) := by decide +kernel
theorem dL_law_1601 : decode code 1601 = .ok (.goto 387, 3) := by decide +kernel
theorem dL_law_1604 : decode code 1604 = .ok (.aload_n 1, 1) := by decide +kernel
theorem dL_law_1605 : decode code 1605 = .ok (.aload_n 3, 1) := by decide +kernel
theorem dL_law_1606 : decode code 1606 = .ok (.invokestatic 191, 3) := by decide +kernel
theorem dL_law_1609 : decode code 1609 = .ok (.istore 5, 2) := by decide +kernel
theorem dL_law_1611 : decode code 1611 = .ok (.aload_n 2, 1) := by decide +kernel
theorem dL_law_1612 : decode code 1612 = .ok (.invokevirtual 193, 3) := by decide +kernel
theorem dL_law_1615 : decode code 1615 = .ok (.istore 6, 2) := by decide +kernel
theorem dL_law_1617 : decode code 1617 = .ok (.aload_n 2, 1) := by decide +kernel
theorem dL_law_1618 : decode code 1618 = .ok (.invokevirtual 112, 3) := by decide +kernel
theorem dL_law_1621 : decode code 1621 = .ok (.iload 5, 2) := by decide +kernel
theorem dL_law_1623 : decode code 1623 = .ok (.if_icmp .eq 5, 3) := by decide +kernel
theorem dL_law_1626 : decode code 1626 = .ok (.iconst 0, 1) := by decide +kernel
theorem dL_law_1627 : decode code 1627 = .ok (.ireturn, 1) := by decide +kernel
theorem dL_law_1628 : decode code 1628 = .ok (.iload 5, 2) := by decide +kernel
theorem dL_law_1630 : decode code 1630 = .ok (.ifCond .ne 15, 3) := by decide +kernel
theorem dL_law_1633 : decode code 1633 = .ok (.aload_n 3, 1) := by decide +kernel
theorem dL_law_1634 : decode code 1634 = .ok (.iconst 0, 1) := by decide +kernel
theorem dL_law_1635 : decode code 1635 = .ok (.laload, 1) := by decide +kernel
theorem dL_law_1636 : decode code 1636 = .ok (.iload 6, 2) := by decide +kernel
theorem dL_law_1638 : decode code 1638 = .ok (.i2l, 1) := by decide +kernel
theorem dL_law_1639 : decode code 1639 = .ok (.lcmp, 1) := by decide +kernel
theorem dL_law_1640 : decode code 1640 = .ok (.ifCond .eq 5, 3) := by decide +kernel
theorem dL_law_1643 : decode code 1643 = .ok (.iconst 0, 1) := by decide +kernel
theorem dL_law_1644 : decode code 1644 = .ok (.ireturn, 1) := by decide +kernel
theorem dL_law_1645 : decode code 1645 = .ok (.goto 343, 3) := by decide +kernel
theorem dL_law_1648 : decode code 1648 = .ok (.aload_n 1, 1) := by decide +kernel
theorem dL_law_1649 : decode code 1649 = .ok (.aload_n 0, 1) := by decide +kernel
theorem dL_law_1650 : decode code 1650 = .ok (.iload 4, 2) := by decide +kernel
theorem dL_law_1652 : decode code 1652 = .ok (.iconst 1, 1) := by decide +kernel
theorem dL_law_1653 : decode code 1653 = .ok (.iadd, 1) := by decide +kernel
theorem dL_law_1654 : decode code 1654 = .ok (.iaload, 1) := by decide +kernel
theorem dL_law_1655 : decode code 1655 = .ok (.invokevirtual 194, 3) := by decide +kernel
theorem dL_law_1658 : decode code 1658 = .ok (.aload_n 2, 1) := by decide +kernel
theorem dL_law_1659 : decode code 1659 = .ok (.aload_n 0, 1) := by decide +kernel
theorem dL_law_1660 : decode code 1660 = .ok (.iload 4, 2) := by decide +kernel
theorem dL_law_1662 : decode code 1662 = .ok (.iconst 1, 1) := by decide +kernel
theorem dL_law_1663 : decode code 1663 = .ok (.iadd, 1) := by decide +kernel
theorem dL_law_1664 : decode code 1664 = .ok (.iaload, 1) := by decide +kernel
theorem dL_law_1665 : decode code 1665 = .ok (.invokevirtual 197, 3) := by decide +kernel
theorem dL_law_1668 : decode code 1668 = .ok (.if_icmp .eq 320, 3) := by decide +kernel
theorem dL_law_1671 : decode code 1671 = .ok (.iconst 0, 1) := by decide +kernel
theorem dL_law_1672 : decode code 1672 = .ok (.ireturn, 1) := by decide +kernel
theorem dL_law_1673 : decode code 1673 = .ok (.aload_n 1, 1) := by decide +kernel
theorem dL_law_1674 : decode code 1674 = .ok (.aload_n 0, 1) := by decide +kernel
theorem dL_law_1675 : decode code 1675 = .ok (.iload 4, 2) := by decide +kernel
theorem dL_law_1677 : decode code 1677 = .ok (.iconst 1, 1) := by decide +kernel
theorem dL_law_1678 : decode code 1678 = .ok (.iadd, 1) := by decide +kernel
theorem dL_law_1679 : decode code 1679 = .ok (.iaload, 1) := by decide +kernel
theorem dL_law_1680 : decode code 1680 = .ok (.aload_n 3, 1) := by decide +kernel
theorem dL_law_1681 : decode code 1681 = .ok (.invokestatic 198, 3) := by decide +kernel
theorem dL_law_1684 : decode code 1684 = .ok (.istore 5, 2) := by decide +kernel
theorem dL_law_1686 : decode code 1686 = .ok (.aload_n 2, 1) := by decide +kernel
theorem dL_law_1687 : decode code 1687 = .ok (.aload_n 0, 1) := by decide +kernel
theorem dL_law_1688 : decode code 1688 = .ok (.iload 4, 2) := by decide +kernel
theorem dL_law_1690 : decode code 1690 = .ok (.iconst 1, 1) := by decide +kernel
theorem dL_law_1691 : decode code 1691 = .ok (.iadd, 1) := by decide +kernel
theorem dL_law_1692 : decode code 1692 = .ok (.iaload, 1) := by decide +kernel
theorem dL_law_1693 : decode code 1693 = .ok (.invokevirtual 200, 3) := by decide +kernel
theorem dL_law_1696 : decode code 1696 = .ok (.istore 6, 2) := by decide +kernel
theorem dL_law_1698 : decode code 1698 = .ok (.aload_n 2, 1) := by decide +kernel
theorem dL_law_1699 : decode code 1699 = .ok (.invokevirtual 112, 3) := by decide +kernel
theorem dL_law_1702 : decode code 1702 = .ok (.iload 5, 2) := by decide +kernel
theorem dL_law_1704 : decode code 1704 = .ok (.if_icmp .eq 5, 3) := by decide +kernel
theorem dL_law_1707 : decode code 1707 = .ok (.iconst 0, 1) := by decide +kernel
theorem dL_law_1708 : decode code 1708 = .ok (.ireturn, 1) := by decide +kernel
theorem dL_law_1709 : decode code 1709 = .ok (.iload 5, 2) := by decide +kernel
theorem dL_law_1711 : decode code 1711 = .ok (.ifCond .ne 15, 3) := by decide +kernel
theorem dL_law_1714 : decode code 1714 = .ok (.aload_n 3, 1) := by decide +kernel
theorem dL_law_1715 : decode code 1715 = .ok (.iconst 0, 1) := by decide +kernel
theorem dL_law_1716 : decode code 1716 = .ok (.laload, 1) := by decide +kernel
theorem dL_law_1717 : decode code 1717 = .ok (.iload 6, 2) := by decide +kernel
theorem dL_law_1719 : decode code 1719 = .ok (.i2l, 1) := by decide +kernel
theorem dL_law_1720 : decode code 1720 = .ok (.lcmp, 1) := by decide +kernel
theorem dL_law_1721 : decode code 1721 = .ok (.ifCond .eq 5, 3) := by decide +kernel
theorem dL_law_1724 : decode code 1724 = .ok (.iconst 0, 1) := by decide +kernel
theorem dL_law_1725 : decode code 1725 = .ok (.ireturn, 1) := by decide +kernel
theorem dL_law_1726 : decode code 1726 = .ok (.goto 262, 3) := by decide +kernel
theorem dL_law_1729 : decode code 1729 = .ok (.aload_n 1, 1) := by decide +kernel
theorem dL_law_1730 : decode code 1730 = .ok (.aload_n 0, 1) := by decide +kernel
theorem dL_law_1731 : decode code 1731 = .ok (.iload 4, 2) := by decide +kernel
theorem dL_law_1733 : decode code 1733 = .ok (.iconst 1, 1) := by decide +kernel
theorem dL_law_1734 : decode code 1734 = .ok (.iadd, 1) := by decide +kernel
theorem dL_law_1735 : decode code 1735 = .ok (.iaload, 1) := by decide +kernel
theorem dL_law_1736 : decode code 1736 = .ok (.aload_n 3, 1) := by decide +kernel
theorem dL_law_1737 : decode code 1737 = .ok (.invokestatic 201, 3) := by decide +kernel
theorem dL_law_1740 : decode code 1740 = .ok (.istore 5, 2) := by decide +kernel
theorem dL_law_1742 : decode code 1742 = .ok (.aload_n 2, 1) := by decide +kernel
theorem dL_law_1743 : decode code 1743 = .ok (.aload_n 0, 1) := by decide +kernel
theorem dL_law_1744 : decode code 1744 = .ok (.iload 4, 2) := by decide +kernel
theorem dL_law_1746 : decode code 1746 = .ok (.iconst 1, 1) := by decide +kernel
theorem dL_law_1747 : decode code 1747 = .ok (.iadd, 1) := by decide +kernel
theorem dL_law_1748 : decode code 1748 = .ok (.iaload, 1) := by decide +kernel
theorem dL_law_1749 : decode code 1749 = .ok (.invokevirtual 203, 3) := by decide +kernel
theorem dL_law_1752 : decode code 1752 = .ok (.istore 6, 2) := by decide +kernel
theorem dL_law_1754 : decode code 1754 = .ok (.aload_n 2, 1) := by decide +kernel
theorem dL_law_1755 : decode code 1755 = .ok (.invokevirtual 112, 3) := by decide +kernel
theorem dL_law_1758 : decode code 1758 = .ok (.iload 5, 2) := by decide +kernel
theorem dL_law_1760 : decode code 1760 = .ok (.if_icmp .eq 5, 3) := by decide +kernel
theorem dL_law_1763 : decode code 1763 = .ok (.iconst 0, 1) := by decide +kernel
theorem dL_law_1764 : decode code 1764 = .ok (.ireturn, 1) := by decide +kernel
theorem dL_law_1765 : decode code 1765 = .ok (.iload 5, 2) := by decide +kernel
theorem dL_law_1767 : decode code 1767 = .ok (.ifCond .ne 15, 3) := by decide +kernel
theorem dL_law_1770 : decode code 1770 = .ok (.aload_n 3, 1) := by decide +kernel
theorem dL_law_1771 : decode code 1771 = .ok (.iconst 0, 1) := by decide +kernel
theorem dL_law_1772 : decode code 1772 = .ok (.laload, 1) := by decide +kernel
theorem dL_law_1773 : decode code 1773 = .ok (.iload 6, 2) := by decide +kernel
theorem dL_law_1775 : decode code 1775 = .ok (.i2l, 1) := by decide +kernel
theorem dL_law_1776 : decode code 1776 = .ok (.lcmp, 1) := by decide +kernel
theorem dL_law_1777 : decode code 1777 = .ok (.ifCond .eq 5, 3) := by decide +kernel
theorem dL_law_1780 : decode code 1780 = .ok (.iconst 0, 1) := by decide +kernel
theorem dL_law_1781 : decode code 1781 = .ok (.ireturn, 1) := by decide +kernel
theorem dL_law_1782 : decode code 1782 = .ok (.goto 206, 3) := by decide +kernel
theorem dL_law_1785 : decode code 1785 = .ok (.aload_n 1, 1) := by decide +kernel
theorem dL_law_1786 : decode code 1786 = .ok (.aload_n 0, 1) := by decide +kernel
theorem dL_law_1787 : decode code 1787 = .ok (.iload 4, 2) := by decide +kernel
theorem dL_law_1789 : decode code 1789 = .ok (.iconst 1, 1) := by decide +kernel
theorem dL_law_1790 : decode code 1790 = .ok (.iadd, 1) := by decide +kernel
theorem dL_law_1791 : decode code 1791 = .ok (.iaload, 1) := by decide +kernel
theorem dL_law_1792 : decode code 1792 = .ok (.aload_n 3, 1) := by decide +kernel
theorem dL_law_1793 : decode code 1793 = .ok (.invokestatic 204, 3) := by decide +kernel
theorem dL_law_1796 : decode code 1796 = .ok (.istore 5, 2) := by decide +kernel
theorem dL_law_1798 : decode code 1798 = .ok (.aload_n 2, 1) := by decide +kernel
theorem dL_law_1799 : decode code 1799 = .ok (.aload_n 0, 1) := by decide +kernel
theorem dL_law_1800 : decode code 1800 = .ok (.iload 4, 2) := by decide +kernel
theorem dL_law_1802 : decode code 1802 = .ok (.iconst 1, 1) := by decide +kernel
theorem dL_law_1803 : decode code 1803 = .ok (.iadd, 1) := by decide +kernel
theorem dL_law_1804 : decode code 1804 = .ok (.iaload, 1) := by decide +kernel
theorem dL_law_1805 : decode code 1805 = .ok (.invokevirtual 206, 3) := by decide +kernel
theorem dL_law_1808 : decode code 1808 = .ok (.istore 6, 2) := by decide +kernel
theorem dL_law_1810 : decode code 1810 = .ok (.aload_n 2, 1) := by decide +kernel
theorem dL_law_1811 : decode code 1811 = .ok (.invokevirtual 112, 3) := by decide +kernel
theorem dL_law_1814 : decode code 1814 = .ok (.iload 5, 2) := by decide +kernel
theorem dL_law_1816 : decode code 1816 = .ok (.if_icmp .eq 5, 3) := by decide +kernel
theorem dL_law_1819 : decode code 1819 = .ok (.iconst 0, 1) := by decide +kernel
theorem dL_law_1820 : decode code 1820 = .ok (.ireturn, 1) := by decide +kernel
theorem dL_law_1821 : decode code 1821 = .ok (.iload 5, 2) := by decide +kernel
theorem dL_law_1823 : decode code 1823 = .ok (.ifCond .ne 15, 3) := by decide +kernel
theorem dL_law_1826 : decode code 1826 = .ok (.aload_n 3, 1) := by decide +kernel
theorem dL_law_1827 : decode code 1827 = .ok (.iconst 0, 1) := by decide +kernel
theorem dL_law_1828 : decode code 1828 = .ok (.laload, 1) := by decide +kernel
theorem dL_law_1829 : decode code 1829 = .ok (.iload 6, 2) := by decide +kernel
theorem dL_law_1831 : decode code 1831 = .ok (.i2l, 1) := by decide +kernel
theorem dL_law_1832 : decode code 1832 = .ok (.lcmp, 1) := by decide +kernel
theorem dL_law_1833 : decode code 1833 = .ok (.ifCond .eq 5, 3) := by decide +kernel
theorem dL_law_1836 : decode code 1836 = .ok (.iconst 0, 1) := by decide +kernel
theorem dL_law_1837 : decode code 1837 = .ok (.ireturn, 1) := by decide +kernel
theorem dL_law_1838 : decode code 1838 = .ok (.goto 150, 3) := by decide +kernel
theorem dL_law_1841 : decode code 1841 = .ok (.aload_n 1, 1) := by decide +kernel
theorem dL_law_1842 : decode code 1842 = .ok (.aload_n 0, 1) := by decide +kernel
theorem dL_law_1843 : decode code 1843 = .ok (.iload 4, 2) := by decide +kernel
theorem dL_law_1845 : decode code 1845 = .ok (.iconst 1, 1) := by decide +kernel
theorem dL_law_1846 : decode code 1846 = .ok (.iadd, 1) := by decide +kernel
theorem dL_law_1847 : decode code 1847 = .ok (.iaload, 1) := by decide +kernel
theorem dL_law_1848 : decode code 1848 = .ok (.aload_n 3, 1) := by decide +kernel
theorem dL_law_1849 : decode code 1849 = .ok (.invokestatic 207, 3) := by decide +kernel
theorem dL_law_1852 : decode code 1852 = .ok (.istore 5, 2) := by decide +kernel
theorem dL_law_1854 : decode code 1854 = .ok (.aload_n 2, 1) := by decide +kernel
theorem dL_law_1855 : decode code 1855 = .ok (.aload_n 0, 1) := by decide +kernel
theorem dL_law_1856 : decode code 1856 = .ok (.iload 4, 2) := by decide +kernel
theorem dL_law_1858 : decode code 1858 = .ok (.iconst 1, 1) := by decide +kernel
theorem dL_law_1859 : decode code 1859 = .ok (.iadd, 1) := by decide +kernel
theorem dL_law_1860 : decode code 1860 = .ok (.iaload, 1) := by decide +kernel
theorem dL_law_1861 : decode code 1861 = .ok (.invokevirtual 209, 3) := by decide +kernel
theorem dL_law_1864 : decode code 1864 = .ok (.istore 6, 2) := by decide +kernel
theorem dL_law_1866 : decode code 1866 = .ok (.aload_n 2, 1) := by decide +kernel
theorem dL_law_1867 : decode code 1867 = .ok (.invokevirtual 112, 3) := by decide +kernel
theorem dL_law_1870 : decode code 1870 = .ok (.iload 5, 2) := by decide +kernel
theorem dL_law_1872 : decode code 1872 = .ok (.if_icmp .eq 5, 3) := by decide +kernel
theorem dL_law_1875 : decode code 1875 = .ok (.iconst 0, 1) := by decide +kernel
theorem dL_law_1876 : decode code 1876 = .ok (.ireturn, 1) := by decide +kernel
theorem dL_law_1877 : decode code 1877 = .ok (.iload 5, 2) := by decide +kernel
theorem dL_law_1879 : decode code 1879 = .ok (.ifCond .ne 15, 3) := by decide +kernel
theorem dL_law_1882 : decode code 1882 = .ok (.aload_n 3, 1) := by decide +kernel
theorem dL_law_1883 : decode code 1883 = .ok (.iconst 0, 1) := by decide +kernel
theorem dL_law_1884 : decode code 1884 = .ok (.laload, 1) := by decide +kernel
theorem dL_law_1885 : decode code 1885 = .ok (.iload 6, 2) := by decide +kernel
theorem dL_law_1887 : decode code 1887 = .ok (.i2l, 1) := by decide +kernel
theorem dL_law_1888 : decode code 1888 = .ok (.lcmp, 1) := by decide +kernel
theorem dL_law_1889 : decode code 1889 = .ok (.ifCond .eq 5, 3) := by decide +kernel
theorem dL_law_1892 : decode code 1892 = .ok (.iconst 0, 1) := by decide +kernel
theorem dL_law_1893 : decode code 1893 = .ok (.ireturn, 1) := by decide +kernel
theorem dL_law_1894 : decode code 1894 = .ok (.goto 94, 3) := by decide +kernel
theorem dL_law_1897 : decode code 1897 = .ok (.aload_n 1, 1) := by decide +kernel
theorem dL_law_1898 : decode code 1898 = .ok (.aload_n 0, 1) := by decide +kernel
theorem dL_law_1899 : decode code 1899 = .ok (.iload 4, 2) := by decide +kernel
theorem dL_law_1901 : decode code 1901 = .ok (.iconst 1, 1) := by decide +kernel
theorem dL_law_1902 : decode code 1902 = .ok (.iadd, 1) := by decide +kernel
theorem dL_law_1903 : decode code 1903 = .ok (.iaload, 1) := by decide +kernel
theorem dL_law_1904 : decode code 1904 = .ok (.invokevirtual 210, 3) := by decide +kernel
theorem dL_law_1907 : decode code 1907 = .ok (.aload_n 2, 1) := by decide +kernel
theorem dL_law_1908 : decode code 1908 = .ok (.aload_n 0, 1) := by decide +kernel
theorem dL_law_1909 : decode code 1909 = .ok (.iload 4, 2) := by decide +kernel
theorem dL_law_1911 : decode code 1911 = .ok (.iconst 1, 1) := by decide +kernel
theorem dL_law_1912 : decode code 1912 = .ok (.iadd, 1) := by decide +kernel
theorem dL_law_1913 : decode code 1913 = .ok (.iaload, 1) := by decide +kernel
theorem dL_law_1914 : decode code 1914 = .ok (.invokevirtual 213, 3) := by decide +kernel
theorem dL_law_1917 : decode code 1917 = .ok (.if_icmp .eq 71, 3) := by decide +kernel
theorem dL_law_1920 : decode code 1920 = .ok (.iconst 0, 1) := by decide +kernel
theorem dL_law_1921 : decode code 1921 = .ok (.ireturn, 1) := by decide +kernel
theorem dL_law_1922 : decode code 1922 = .ok (.aload_n 1, 1) := by decide +kernel
theorem dL_law_1923 : decode code 1923 = .ok (.aload_n 0, 1) := by decide +kernel
theorem dL_law_1924 : decode code 1924 = .ok (.iload 4, 2) := by decide +kernel
theorem dL_law_1926 : decode code 1926 = .ok (.iconst 1, 1) := by decide +kernel
theorem dL_law_1927 : decode code 1927 = .ok (.iadd, 1) := by decide +kernel
theorem dL_law_1928 : decode code 1928 = .ok (.iaload, 1) := by decide +kernel
theorem dL_law_1929 : decode code 1929 = .ok (.ifCond .eq 7, 3) := by decide +kernel
theorem dL_law_1932 : decode code 1932 = .ok (.iconst 1, 1) := by decide +kernel
theorem dL_law_1933 : decode code 1933 = .ok (.goto 4, 3) := by decide +kernel
theorem dL_law_1936 : decode code 1936 = .ok (.iconst 0, 1) := by decide +kernel
theorem dL_law_1937 : decode code 1937 = .ok (.invokevirtual 214, 3) := by decide +kernel
theorem dL_law_1940 : decode code 1940 = .ok (.aload_n 2, 1) := by decide +kernel
theorem dL_law_1941 : decode code 1941 = .ok (.aload_n 0, 1) := by decide +kernel
theorem dL_law_1942 : decode code 1942 = .ok (.iload 4, 2) := by decide +kernel
theorem dL_law_1944 : decode code 1944 = .ok (.iconst 1, 1) := by decide +kernel
theorem dL_law_1945 : decode code 1945 = .ok (.iadd, 1) := by decide +kernel
theorem dL_law_1946 : decode code 1946 = .ok (.iaload, 1) := by decide +kernel
theorem dL_law_1947 : decode code 1947 = .ok (.ifCond .eq 7, 3) := by decide +kernel
theorem dL_law_1950 : decode code 1950 = .ok (.iconst 1, 1) := by decide +kernel
theorem dL_law_1951 : decode code 1951 = .ok (.goto 4, 3) := by decide +kernel
theorem dL_law_1954 : decode code 1954 = .ok (.iconst 0, 1) := by decide +kernel
theorem dL_law_1955 : decode code 1955 = .ok (.invokevirtual 217, 3) := by decide +kernel
theorem dL_law_1958 : decode code 1958 = .ok (.if_icmp .eq 30, 3) := by decide +kernel
theorem dL_law_1961 : decode code 1961 = .ok (.iconst 0, 1) := by decide +kernel
theorem dL_law_1962 : decode code 1962 = .ok (.ireturn, 1) := by decide +kernel
theorem dL_law_1963 : decode code 1963 = .ok (.aload_n 1, 1) := by decide +kernel
theorem dL_law_1964 : decode code 1964 = .ok (.aload_n 0, 1) := by decide +kernel
theorem dL_law_1965 : decode code 1965 = .ok (.iload 4, 2) := by decide +kernel
theorem dL_law_1967 : decode code 1967 = .ok (.iconst 1, 1) := by decide +kernel
theorem dL_law_1968 : decode code 1968 = .ok (.iadd, 1) := by decide +kernel
theorem dL_law_1969 : decode code 1969 = .ok (.iaload, 1) := by decide +kernel
theorem dL_law_1970 : decode code 1970 = .ok (.invokevirtual 218, 3) := by decide +kernel
theorem dL_law_1973 : decode code 1973 = .ok (.aload_n 2, 1) := by decide +kernel
theorem dL_law_1974 : decode code 1974 = .ok (.aload_n 0, 1) := by decide +kernel
theorem dL_law_1975 : decode code 1975 = .ok (.iload 4, 2) := by decide +kernel
theorem dL_law_1977 : decode code 1977 = .ok (.iconst 1, 1) := by decide +kernel
theorem dL_law_1978 : decode code 1978 = .ok (.iadd, 1) := by decide +kernel
theorem dL_law_1979 : decode code 1979 = .ok (.iaload, 1) := by decide +kernel
theorem dL_law_1980 : decode code 1980 = .ok (.invokevirtual 221, 3) := by decide +kernel
theorem dL_law_1983 : decode code 1983 = .ok (.if_icmp .eq 5, 3) := by decide +kernel
theorem dL_law_1986 : decode code 1986 = .ok (.iconst 0, 1) := by decide +kernel
theorem dL_law_1987 : decode code 1987 = .ok (.ireturn, 1) := by decide +kernel
theorem dL_law_1988 : decode code 1988 = .ok (.iinc 4 6, 3) := by decide +kernel
theorem dL_law_1991 : decode code 1991 = .ok (.goto (-1968), 3) := by decide +kernel
theorem dL_law_1994 : decode code 1994 = .ok (.iconst 1, 1) := by decide +kernel
theorem dL_law_1995 : decode code 1995 = .ok (.ireturn, 1) := by decide +kernel
theorem ml_RL_88 : Cond.methodLink RL 88 yX9_init ∈ gw := in_g1 30 (by decide +kernel) rfl
theorem ml_RL_91 : Cond.methodLink RL 91 yX10_init ∈ gw := in_g6 199 (by decide +kernel) rfl
theorem ml_RL_92 : Cond.methodLink RL 92 yX9_feed ∈ gw := in_g2 216 (by decide +kernel) rfl
theorem my_X9_feed : MY yX9_feed cX9_feed 6 (some .int) 5 := ⟨in_g1 1 (by decide +kernel) rfl, in_g2 219 (by decide +kernel) rfl, by decide, by decide, by decide +kernel, by decide⟩
theorem mi_X9_feed : MI yX9_feed := ⟨in_g2 217 (by decide +kernel) rfl, in_g2 218 (by decide +kernel) rfl⟩
theorem ml_RL_96 : Cond.methodLink RL 96 yX10_feed ∈ gw := in_g7 175 (by decide +kernel) rfl
theorem my_X10_feed : MY yX10_feed cX10_feed 7 (some .int) 5 := ⟨in_g1 11 (by decide +kernel) rfl, in_g7 178 (by decide +kernel) rfl, by decide, by decide, by decide +kernel, by decide⟩
theorem mi_X10_feed : MI yX10_feed := ⟨in_g7 176 (by decide +kernel) rfl, in_g7 177 (by decide +kernel) rfl⟩
theorem ml_RL_97 : Cond.methodLink RL 97 yX9_end ∈ gw := in_g2 224 (by decide +kernel) rfl
theorem my_X9_end : MY yX9_end cX9_end 2 (some .boolean) 1 := ⟨in_g1 1 (by decide +kernel) rfl, in_g2 227 (by decide +kernel) rfl, by decide, by decide, by decide +kernel, by decide⟩
theorem mi_X9_end : MI yX9_end := ⟨in_g2 225 (by decide +kernel) rfl, in_g2 226 (by decide +kernel) rfl⟩
theorem ml_RL_101 : Cond.methodLink RL 101 yX10_end ∈ gw := in_g7 179 (by decide +kernel) rfl
theorem my_X10_end : MY yX10_end cX10_end 2 (some .boolean) 1 := ⟨in_g1 11 (by decide +kernel) rfl, in_g7 182 (by decide +kernel) rfl, by decide, by decide, by decide +kernel, by decide⟩
theorem mi_X10_end : MI yX10_end := ⟨in_g7 180 (by decide +kernel) rfl, in_g7 181 (by decide +kernel) rfl⟩
theorem ml_RL_102 : Cond.methodLink RL 102 yX9_page ∈ gw := in_g2 228 (by decide +kernel) rfl
theorem my_X9_page : MY yX9_page cX9_page 1 (some .int) 0 := ⟨in_g1 1 (by decide +kernel) rfl, in_g2 231 (by decide +kernel) rfl, by decide, by decide, by decide +kernel, by decide⟩
theorem mi_X9_page : MI yX9_page := ⟨in_g2 229 (by decide +kernel) rfl, in_g2 230 (by decide +kernel) rfl⟩
theorem ml_RL_105 : Cond.methodLink RL 105 yX10_page ∈ gw := in_g7 183 (by decide +kernel) rfl
theorem my_X10_page : MY yX10_page cX10_page 2 (some .int) 0 := ⟨in_g1 11 (by decide +kernel) rfl, in_g7 186 (by decide +kernel) rfl, by decide, by decide, by decide +kernel, by decide⟩
theorem mi_X10_page : MI yX10_page := ⟨in_g7 184 (by decide +kernel) rfl, in_g7 185 (by decide +kernel) rfl⟩
theorem ml_RL_106 : Cond.methodLink RL 106 yL_query ∈ gw := in_g4 62 (by decide +kernel) rfl
theorem ml_RL_111 : Cond.methodLink RL 111 yX10_query ∈ gw := in_g8 28 (by decide +kernel) rfl
theorem my_X10_query : MY yX10_query cX10_query 2 (some .int) 0 := ⟨in_g1 11 (by decide +kernel) rfl, in_g8 31 (by decide +kernel) rfl, by decide, by decide, by decide +kernel, by decide⟩
theorem mi_X10_query : MI yX10_query := ⟨in_g8 29 (by decide +kernel) rfl, in_g8 30 (by decide +kernel) rfl⟩
theorem ml_RL_112 : Cond.methodLink RL 112 yX10_thrown ∈ gw := in_g7 171 (by decide +kernel) rfl
theorem my_X10_thrown : MY yX10_thrown cX10_thrown 1 (some .int) 0 := ⟨in_g1 11 (by decide +kernel) rfl, in_g7 174 (by decide +kernel) rfl, by decide, by decide, by decide +kernel, by decide⟩
theorem mi_X10_thrown : MI yX10_thrown := ⟨in_g7 172 (by decide +kernel) rfl, in_g7 173 (by decide +kernel) rfl⟩
theorem ml_RL_115 : Cond.methodLink RL 115 yX9_fault ∈ gw := in_g3 138 (by decide +kernel) rfl
theorem my_X9_fault : MY yX9_fault cX9_fault 1 (some .int) 0 := ⟨in_g1 1 (by decide +kernel) rfl, in_g3 141 (by decide +kernel) rfl, by decide, by decide, by decide +kernel, by decide⟩
theorem mi_X9_fault : MI yX9_fault := ⟨in_g3 139 (by decide +kernel) rfl, in_g3 140 (by decide +kernel) rfl⟩
theorem ml_RL_118 : Cond.methodLink RL 118 yX10_fault ∈ gw := in_g8 64 (by decide +kernel) rfl
theorem my_X10_fault : MY yX10_fault cX10_fault 1 (some .int) 0 := ⟨in_g1 11 (by decide +kernel) rfl, in_g8 67 (by decide +kernel) rfl, by decide, by decide, by decide +kernel, by decide⟩
theorem mi_X10_fault : MI yX10_fault := ⟨in_g8 65 (by decide +kernel) rfl, in_g8 66 (by decide +kernel) rfl⟩
theorem ml_RL_119 : Cond.methodLink RL 119 yL_tell ∈ gw := in_g4 239 (by decide +kernel) rfl
theorem ml_RL_122 : Cond.methodLink RL 122 yX10_tell ∈ gw := in_g8 143 (by decide +kernel) rfl
theorem my_X10_tell : MY yX10_tell cX10_tell 4 (some .int) 2 := ⟨in_g1 11 (by decide +kernel) rfl, in_g8 146 (by decide +kernel) rfl, by decide, by decide, by decide +kernel, by decide⟩
theorem mi_X10_tell : MI yX10_tell := ⟨in_g8 144 (by decide +kernel) rfl, in_g8 145 (by decide +kernel) rfl⟩
theorem ml_RL_123 : Cond.methodLink RL 123 yX9_sign ∈ gw := in_g3 142 (by decide +kernel) rfl
theorem my_X9_sign : MY yX9_sign cX9_sign 2 (some .int) 1 := ⟨in_g1 1 (by decide +kernel) rfl, in_g3 145 (by decide +kernel) rfl, by decide, by decide, by decide +kernel, by decide⟩
theorem mi_X9_sign : MI yX9_sign := ⟨in_g3 143 (by decide +kernel) rfl, in_g3 144 (by decide +kernel) rfl⟩
theorem ml_RL_126 : Cond.methodLink RL 126 yX10_sign ∈ gw := in_g9 79 (by decide +kernel) rfl
theorem my_X10_sign : MY yX10_sign cX10_sign 2 (some .int) 1 := ⟨in_g1 11 (by decide +kernel) rfl, in_g9 82 (by decide +kernel) rfl, by decide, by decide, by decide +kernel, by decide⟩
theorem mi_X10_sign : MI yX10_sign := ⟨in_g9 80 (by decide +kernel) rfl, in_g9 81 (by decide +kernel) rfl⟩
theorem ml_RL_127 : Cond.methodLink RL 127 yX9_signOf ∈ gw := in_g3 150 (by decide +kernel) rfl
theorem my_X9_signOf : MY yX9_signOf cX9_signOf 2 (some .int) 1 := ⟨in_g1 1 (by decide +kernel) rfl, in_g3 153 (by decide +kernel) rfl, by decide, by decide, by decide +kernel, by decide⟩
theorem mi_X9_signOf : MI yX9_signOf := ⟨in_g3 151 (by decide +kernel) rfl, in_g3 152 (by decide +kernel) rfl⟩
theorem ml_RL_130 : Cond.methodLink RL 130 yX10_signOf ∈ gw := in_g9 83 (by decide +kernel) rfl
theorem my_X10_signOf : MY yX10_signOf cX10_signOf 3 (some .int) 1 := ⟨in_g1 11 (by decide +kernel) rfl, in_g9 86 (by decide +kernel) rfl, by decide, by decide, by decide +kernel, by decide⟩
theorem mi_X10_signOf : MI yX10_signOf := ⟨in_g9 84 (by decide +kernel) rfl, in_g9 85 (by decide +kernel) rfl⟩
theorem ml_RL_131 : Cond.methodLink RL 131 yL_word ∈ gw := in_g5 34 (by decide +kernel) rfl
theorem ml_RL_133 : Cond.methodLink RL 133 yX10_word ∈ gw := in_g9 87 (by decide +kernel) rfl
theorem my_X10_word : MY yX10_word cX10_word 3 (some .int) 2 := ⟨in_g1 11 (by decide +kernel) rfl, in_g9 90 (by decide +kernel) rfl, by decide, by decide, by decide +kernel, by decide⟩
theorem mi_X10_word : MI yX10_word := ⟨in_g9 88 (by decide +kernel) rfl, in_g9 89 (by decide +kernel) rfl⟩
theorem ml_RL_134 : Cond.methodLink RL 134 yL_sentence ∈ gw := in_g5 65 (by decide +kernel) rfl
theorem ml_RL_136 : Cond.methodLink RL 136 yX10_sentence ∈ gw := in_g9 95 (by decide +kernel) rfl
theorem my_X10_sentence : MY yX10_sentence cX10_sentence 4 (some .int) 2 := ⟨in_g1 11 (by decide +kernel) rfl, in_g9 98 (by decide +kernel) rfl, by decide, by decide, by decide +kernel, by decide⟩
theorem mi_X10_sentence : MI yX10_sentence := ⟨in_g9 96 (by decide +kernel) rfl, in_g9 97 (by decide +kernel) rfl⟩
theorem ml_RL_137 : Cond.methodLink RL 137 yL_item ∈ gw := in_g5 91 (by decide +kernel) rfl
theorem ml_RL_139 : Cond.methodLink RL 139 yX10_item ∈ gw := in_g9 108 (by decide +kernel) rfl
theorem my_X10_item : MY yX10_item cX10_item 3 (some .int) 2 := ⟨in_g1 11 (by decide +kernel) rfl, in_g9 111 (by decide +kernel) rfl, by decide, by decide, by decide +kernel, by decide⟩
theorem mi_X10_item : MI yX10_item := ⟨in_g9 109 (by decide +kernel) rfl, in_g9 110 (by decide +kernel) rfl⟩
theorem ml_RL_140 : Cond.methodLink RL 140 yL_fits ∈ gw := in_g5 110 (by decide +kernel) rfl
theorem ml_RL_143 : Cond.methodLink RL 143 yX10_fits ∈ gw := in_g9 124 (by decide +kernel) rfl
theorem my_X10_fits : MY yX10_fits cX10_fits 4 (some .boolean) 3 := ⟨in_g1 11 (by decide +kernel) rfl, in_g9 127 (by decide +kernel) rfl, by decide, by decide, by decide +kernel, by decide⟩
theorem mi_X10_fits : MI yX10_fits := ⟨in_g9 125 (by decide +kernel) rfl, in_g9 126 (by decide +kernel) rfl⟩
theorem ml_RL_144 : Cond.methodLink RL 144 yL_match ∈ gw := in_g5 118 (by decide +kernel) rfl
theorem ml_RL_146 : Cond.methodLink RL 146 yX10_match ∈ gw := in_g9 128 (by decide +kernel) rfl
theorem my_X10_match : MY yX10_match cX10_match 3 (some .int) 2 := ⟨in_g1 11 (by decide +kernel) rfl, in_g9 131 (by decide +kernel) rfl, by decide, by decide, by decide +kernel, by decide⟩
theorem mi_X10_match : MI yX10_match := ⟨in_g9 129 (by decide +kernel) rfl, in_g9 130 (by decide +kernel) rfl⟩
theorem ml_RL_147 : Cond.methodLink RL 147 yL_window ∈ gw := in_g5 134 (by decide +kernel) rfl
theorem ml_RL_149 : Cond.methodLink RL 149 yX10_window ∈ gw := in_g8 68 (by decide +kernel) rfl
theorem my_X10_window : MY yX10_window cX10_window 7 (some .int) 3 := ⟨in_g1 11 (by decide +kernel) rfl, in_g8 71 (by decide +kernel) rfl, by decide, by decide, by decide +kernel, by decide⟩
theorem mi_X10_window : MI yX10_window := ⟨in_g8 69 (by decide +kernel) rfl, in_g8 70 (by decide +kernel) rfl⟩
theorem ml_RL_150 : Cond.methodLink RL 150 yL_least ∈ gw := in_g5 176 (by decide +kernel) rfl
theorem ml_RL_152 : Cond.methodLink RL 152 yX10_least ∈ gw := in_g8 96 (by decide +kernel) rfl
theorem my_X10_least : MY yX10_least cX10_least 7 (some .int) 2 := ⟨in_g1 11 (by decide +kernel) rfl, in_g8 99 (by decide +kernel) rfl, by decide, by decide, by decide +kernel, by decide⟩
theorem mi_X10_least : MI yX10_least := ⟨in_g8 97 (by decide +kernel) rfl, in_g8 98 (by decide +kernel) rfl⟩
theorem ml_RL_153 : Cond.methodLink RL 153 yL_most ∈ gw := in_g5 187 (by decide +kernel) rfl
theorem ml_RL_156 : Cond.methodLink RL 156 yX10_most ∈ gw := in_g8 100 (by decide +kernel) rfl
theorem my_X10_most : MY yX10_most cX10_most 7 (some .int) 1 := ⟨in_g1 11 (by decide +kernel) rfl, in_g8 103 (by decide +kernel) rfl, by decide, by decide, by decide +kernel, by decide⟩
theorem mi_X10_most : MI yX10_most := ⟨in_g8 101 (by decide +kernel) rfl, in_g8 102 (by decide +kernel) rfl⟩
theorem ml_RL_157 : Cond.methodLink RL 157 yL_widest ∈ gw := in_g5 203 (by decide +kernel) rfl
theorem ml_RL_159 : Cond.methodLink RL 159 yX10_widest ∈ gw := in_g8 107 (by decide +kernel) rfl
theorem my_X10_widest : MY yX10_widest cX10_widest 3 (some .int) 2 := ⟨in_g1 11 (by decide +kernel) rfl, in_g8 110 (by decide +kernel) rfl, by decide, by decide, by decide +kernel, by decide⟩
theorem mi_X10_widest : MI yX10_widest := ⟨in_g8 108 (by decide +kernel) rfl, in_g8 109 (by decide +kernel) rfl⟩
theorem ml_RL_160 : Cond.methodLink RL 160 yL_cut ∈ gw := in_g5 224 (by decide +kernel) rfl
theorem ml_RL_162 : Cond.methodLink RL 162 yX10_cut ∈ gw := in_g8 123 (by decide +kernel) rfl
theorem my_X10_cut : MY yX10_cut cX10_cut 5 (some .int) 3 := ⟨in_g1 11 (by decide +kernel) rfl, in_g8 126 (by decide +kernel) rfl, by decide, by decide, by decide +kernel, by decide⟩
theorem mi_X10_cut : MI yX10_cut := ⟨in_g8 124 (by decide +kernel) rfl, in_g8 125 (by decide +kernel) rfl⟩
theorem ml_RL_163 : Cond.methodLink RL 163 yL_set ∈ gw := in_g6 1 (by decide +kernel) rfl
theorem ml_RL_165 : Cond.methodLink RL 165 yX10_set ∈ gw := in_g8 147 (by decide +kernel) rfl
theorem ml_RL_166 : Cond.methodLink RL 166 yL_common ∈ gw := in_g6 15 (by decide +kernel) rfl
theorem ml_RL_168 : Cond.methodLink RL 168 yX10_common ∈ gw := in_g8 182 (by decide +kernel) rfl
theorem my_X10_common : MY yX10_common cX10_common 3 (some .int) 2 := ⟨in_g1 11 (by decide +kernel) rfl, in_g8 185 (by decide +kernel) rfl, by decide, by decide, by decide +kernel, by decide⟩
theorem mi_X10_common : MI yX10_common := ⟨in_g8 183 (by decide +kernel) rfl, in_g8 184 (by decide +kernel) rfl⟩
theorem ml_RL_169 : Cond.methodLink RL 169 yX9_step ∈ gw := in_g3 154 (by decide +kernel) rfl
theorem my_X9_step : MY yX9_step cX9_step 2 (some .int) 1 := ⟨in_g1 1 (by decide +kernel) rfl, in_g3 157 (by decide +kernel) rfl, by decide, by decide, by decide +kernel, by decide⟩
theorem mi_X9_step : MI yX9_step := ⟨in_g3 155 (by decide +kernel) rfl, in_g3 156 (by decide +kernel) rfl⟩
theorem ml_RL_172 : Cond.methodLink RL 172 yX10_step ∈ gw := in_g8 186 (by decide +kernel) rfl
theorem my_X10_step : MY yX10_step cX10_step 2 (some .int) 1 := ⟨in_g1 11 (by decide +kernel) rfl, in_g8 189 (by decide +kernel) rfl, by decide, by decide, by decide +kernel, by decide⟩
theorem mi_X10_step : MI yX10_step := ⟨in_g8 187 (by decide +kernel) rfl, in_g8 188 (by decide +kernel) rfl⟩
theorem ml_RL_173 : Cond.methodLink RL 173 yX9_choice ∈ gw := in_g3 216 (by decide +kernel) rfl
theorem my_X9_choice : MY yX9_choice cX9_choice 2 (some .int) 1 := ⟨in_g1 1 (by decide +kernel) rfl, in_g3 219 (by decide +kernel) rfl, by decide, by decide, by decide +kernel, by decide⟩
theorem mi_X9_choice : MI yX9_choice := ⟨in_g3 217 (by decide +kernel) rfl, in_g3 218 (by decide +kernel) rfl⟩
theorem ml_RL_177 : Cond.methodLink RL 177 yX10_choice ∈ gw := in_g8 198 (by decide +kernel) rfl
theorem my_X10_choice : MY yX10_choice cX10_choice 2 (some .int) 1 := ⟨in_g1 11 (by decide +kernel) rfl, in_g8 201 (by decide +kernel) rfl, by decide, by decide, by decide +kernel, by decide⟩
theorem mi_X10_choice : MI yX10_choice := ⟨in_g8 199 (by decide +kernel) rfl, in_g8 200 (by decide +kernel) rfl⟩
theorem ml_RL_178 : Cond.methodLink RL 178 yX9_take ∈ gw := in_g4 9 (by decide +kernel) rfl
theorem my_X9_take : MY yX9_take cX9_take 2 (some .int) 1 := ⟨in_g1 1 (by decide +kernel) rfl, in_g4 12 (by decide +kernel) rfl, by decide, by decide, by decide +kernel, by decide⟩
theorem mi_X9_take : MI yX9_take := ⟨in_g4 10 (by decide +kernel) rfl, in_g4 11 (by decide +kernel) rfl⟩
theorem ml_RL_181 : Cond.methodLink RL 181 yX10_take ∈ gw := in_g8 214 (by decide +kernel) rfl
theorem my_X10_take : MY yX10_take cX10_take 2 (some .int) 1 := ⟨in_g1 11 (by decide +kernel) rfl, in_g8 217 (by decide +kernel) rfl, by decide, by decide, by decide +kernel, by decide⟩
theorem mi_X10_take : MI yX10_take := ⟨in_g8 215 (by decide +kernel) rfl, in_g8 216 (by decide +kernel) rfl⟩
theorem ml_RL_182 : Cond.methodLink RL 182 yL_choose ∈ gw := in_g6 23 (by decide +kernel) rfl
theorem ml_RL_184 : Cond.methodLink RL 184 yX10_choose ∈ gw := in_g8 218 (by decide +kernel) rfl
theorem my_X10_choose : MY yX10_choose cX10_choose 2 (some .int) 1 := ⟨in_g1 11 (by decide +kernel) rfl, in_g8 221 (by decide +kernel) rfl, by decide, by decide, by decide +kernel, by decide⟩
theorem mi_X10_choose : MI yX10_choose := ⟨in_g8 219 (by decide +kernel) rfl, in_g8 220 (by decide +kernel) rfl⟩
theorem ml_RL_185 : Cond.methodLink RL 185 yL_drop ∈ gw := in_g6 47 (by decide +kernel) rfl
theorem ml_RL_187 : Cond.methodLink RL 187 yX10_drop ∈ gw := in_g8 222 (by decide +kernel) rfl
theorem my_X10_drop : MY yX10_drop cX10_drop 2 (some .int) 1 := ⟨in_g1 11 (by decide +kernel) rfl, in_g8 225 (by decide +kernel) rfl, by decide, by decide, by decide +kernel, by decide⟩
theorem mi_X10_drop : MI yX10_drop := ⟨in_g8 223 (by decide +kernel) rfl, in_g8 224 (by decide +kernel) rfl⟩
theorem ml_RL_188 : Cond.methodLink RL 188 yL_exchange ∈ gw := in_g6 56 (by decide +kernel) rfl
theorem ml_RL_190 : Cond.methodLink RL 190 yX10_exchange ∈ gw := in_g8 226 (by decide +kernel) rfl
theorem my_X10_exchange : MY yX10_exchange cX10_exchange 3 (some .int) 1 := ⟨in_g1 11 (by decide +kernel) rfl, in_g8 229 (by decide +kernel) rfl, by decide, by decide, by decide +kernel, by decide⟩
theorem mi_X10_exchange : MI yX10_exchange := ⟨in_g8 227 (by decide +kernel) rfl, in_g8 228 (by decide +kernel) rfl⟩
theorem ml_RL_191 : Cond.methodLink RL 191 yL_trade ∈ gw := in_g6 75 (by decide +kernel) rfl
theorem ml_RL_193 : Cond.methodLink RL 193 yX10_trade ∈ gw := in_g8 234 (by decide +kernel) rfl
theorem my_X10_trade : MY yX10_trade cX10_trade 1 (some .int) 0 := ⟨in_g1 11 (by decide +kernel) rfl, in_g8 237 (by decide +kernel) rfl, by decide, by decide, by decide +kernel, by decide⟩
theorem mi_X10_trade : MI yX10_trade := ⟨in_g8 235 (by decide +kernel) rfl, in_g8 236 (by decide +kernel) rfl⟩
theorem ml_RL_194 : Cond.methodLink RL 194 yX9_rank ∈ gw := in_g4 14 (by decide +kernel) rfl
theorem my_X9_rank : MY yX9_rank cX9_rank 2 (some .int) 1 := ⟨in_g1 1 (by decide +kernel) rfl, in_g4 17 (by decide +kernel) rfl, by decide, by decide, by decide +kernel, by decide⟩
theorem mi_X9_rank : MI yX9_rank := ⟨in_g4 15 (by decide +kernel) rfl, in_g4 16 (by decide +kernel) rfl⟩
theorem ml_RL_197 : Cond.methodLink RL 197 yX10_rank ∈ gw := in_g8 238 (by decide +kernel) rfl
theorem my_X10_rank : MY yX10_rank cX10_rank 5 (some .int) 1 := ⟨in_g1 11 (by decide +kernel) rfl, in_g9 1 (by decide +kernel) rfl, by decide, by decide, by decide +kernel, by decide⟩
theorem mi_X10_rank : MI yX10_rank := ⟨in_g8 239 (by decide +kernel) rfl, in_g9 0 (by decide +kernel) rfl⟩
theorem ml_RL_198 : Cond.methodLink RL 198 yL_need ∈ gw := in_g6 84 (by decide +kernel) rfl
theorem ml_RL_200 : Cond.methodLink RL 200 yX10_need ∈ gw := in_g9 2 (by decide +kernel) rfl
theorem my_X10_need : MY yX10_need cX10_need 4 (some .int) 1 := ⟨in_g1 11 (by decide +kernel) rfl, in_g9 5 (by decide +kernel) rfl, by decide, by decide, by decide +kernel, by decide⟩
theorem mi_X10_need : MI yX10_need := ⟨in_g9 3 (by decide +kernel) rfl, in_g9 4 (by decide +kernel) rfl⟩
theorem ml_RL_201 : Cond.methodLink RL 201 yL_loss ∈ gw := in_g6 96 (by decide +kernel) rfl
theorem ml_RL_203 : Cond.methodLink RL 203 yX10_loss ∈ gw := in_g9 7 (by decide +kernel) rfl
theorem my_X10_loss : MY yX10_loss cX10_loss 3 (some .int) 1 := ⟨in_g1 11 (by decide +kernel) rfl, in_g9 10 (by decide +kernel) rfl, by decide, by decide, by decide +kernel, by decide⟩
theorem mi_X10_loss : MI yX10_loss := ⟨in_g9 8 (by decide +kernel) rfl, in_g9 9 (by decide +kernel) rfl⟩
theorem ml_RL_204 : Cond.methodLink RL 204 yL_quote ∈ gw := in_g6 108 (by decide +kernel) rfl
theorem ml_RL_206 : Cond.methodLink RL 206 yX10_quote ∈ gw := in_g9 63 (by decide +kernel) rfl
theorem my_X10_quote : MY yX10_quote cX10_quote 6 (some .int) 1 := ⟨in_g1 11 (by decide +kernel) rfl, in_g9 66 (by decide +kernel) rfl, by decide, by decide, by decide +kernel, by decide⟩
theorem mi_X10_quote : MI yX10_quote := ⟨in_g9 64 (by decide +kernel) rfl, in_g9 65 (by decide +kernel) rfl⟩
theorem ml_RL_207 : Cond.methodLink RL 207 yL_write ∈ gw := in_g6 177 (by decide +kernel) rfl
theorem ml_RL_209 : Cond.methodLink RL 209 yX10_write ∈ gw := in_g9 11 (by decide +kernel) rfl
theorem my_X10_write : MY yX10_write cX10_write 9 (some .int) 1 := ⟨in_g1 11 (by decide +kernel) rfl, in_g9 14 (by decide +kernel) rfl, by decide, by decide, by decide +kernel, by decide⟩
theorem mi_X10_write : MI yX10_write := ⟨in_g9 12 (by decide +kernel) rfl, in_g9 13 (by decide +kernel) rfl⟩
theorem ml_RL_210 : Cond.methodLink RL 210 yX9_octet ∈ gw := in_g4 26 (by decide +kernel) rfl
theorem my_X9_octet : MY yX9_octet cX9_octet 2 (some .int) 1 := ⟨in_g1 1 (by decide +kernel) rfl, in_g4 29 (by decide +kernel) rfl, by decide, by decide, by decide +kernel, by decide⟩
theorem mi_X9_octet : MI yX9_octet := ⟨in_g4 27 (by decide +kernel) rfl, in_g4 28 (by decide +kernel) rfl⟩
theorem ml_RL_213 : Cond.methodLink RL 213 yX10_octet ∈ gw := in_g9 71 (by decide +kernel) rfl
theorem my_X10_octet : MY yX10_octet cX10_octet 2 (some .int) 1 := ⟨in_g1 11 (by decide +kernel) rfl, in_g9 74 (by decide +kernel) rfl, by decide, by decide, by decide +kernel, by decide⟩
theorem mi_X10_octet : MI yX10_octet := ⟨in_g9 72 (by decide +kernel) rfl, in_g9 73 (by decide +kernel) rfl⟩
theorem ml_RL_214 : Cond.methodLink RL 214 yX9_marks ∈ gw := in_g4 30 (by decide +kernel) rfl
theorem my_X9_marks : MY yX9_marks cX9_marks 2 (some .int) 1 := ⟨in_g1 1 (by decide +kernel) rfl, in_g4 33 (by decide +kernel) rfl, by decide, by decide, by decide +kernel, by decide⟩
theorem mi_X9_marks : MI yX9_marks := ⟨in_g4 31 (by decide +kernel) rfl, in_g4 32 (by decide +kernel) rfl⟩
theorem ml_RL_217 : Cond.methodLink RL 217 yX10_marks ∈ gw := in_g9 75 (by decide +kernel) rfl
theorem my_X10_marks : MY yX10_marks cX10_marks 2 (some .int) 1 := ⟨in_g1 11 (by decide +kernel) rfl, in_g9 78 (by decide +kernel) rfl, by decide, by decide, by decide +kernel, by decide⟩
theorem mi_X10_marks : MI yX10_marks := ⟨in_g9 76 (by decide +kernel) rfl, in_g9 77 (by decide +kernel) rfl⟩
theorem ml_RL_218 : Cond.methodLink RL 218 yX9_count ∈ gw := in_g4 34 (by decide +kernel) rfl
theorem my_X9_count : MY yX9_count cX9_count 2 (some .int) 1 := ⟨in_g1 1 (by decide +kernel) rfl, in_g4 37 (by decide +kernel) rfl, by decide, by decide, by decide +kernel, by decide⟩
theorem mi_X9_count : MI yX9_count := ⟨in_g4 35 (by decide +kernel) rfl, in_g4 36 (by decide +kernel) rfl⟩
theorem ml_RL_221 : Cond.methodLink RL 221 yX10_count ∈ gw := in_g9 132 (by decide +kernel) rfl
theorem my_X10_count : MY yX10_count cX10_count 2 (some .int) 1 := ⟨in_g1 11 (by decide +kernel) rfl, in_g9 135 (by decide +kernel) rfl, by decide, by decide, by decide +kernel, by decide⟩
theorem mi_X10_count : MI yX10_count := ⟨in_g9 133 (by decide +kernel) rfl, in_g9 134 (by decide +kernel) rfl⟩
