theorem d_L_law_1051 : decode c_L_law 1051 = .ok (.if_icmp .eq 5, 3) := by decide +kernel
theorem d_L_law_1054 : decode c_L_law 1054 = .ok (.iconst 0, 1) := by decide +kernel
theorem d_L_law_1055 : decode c_L_law 1055 = .ok (.ireturn, 1) := by decide +kernel
theorem d_L_law_1056 : decode c_L_law 1056 = .ok (.iload 5, 2) := by decide +kernel
theorem d_L_law_1058 : decode c_L_law 1058 = .ok (.ifCond .ne 15, 3) := by decide +kernel
theorem d_L_law_1061 : decode c_L_law 1061 = .ok (.aload_n 3, 1) := by decide +kernel
theorem d_L_law_1062 : decode c_L_law 1062 = .ok (.iconst 0, 1) := by decide +kernel
theorem d_L_law_1063 : decode c_L_law 1063 = .ok (.laload, 1) := by decide +kernel
theorem d_L_law_1064 : decode c_L_law 1064 = .ok (.iload 6, 2) := by decide +kernel
theorem d_L_law_1066 : decode c_L_law 1066 = .ok (.i2l, 1) := by decide +kernel
theorem d_L_law_1067 : decode c_L_law 1067 = .ok (.lcmp, 1) := by decide +kernel
theorem d_L_law_1068 : decode c_L_law 1068 = .ok (.ifCond .eq 5, 3) := by decide +kernel
theorem d_L_law_1071 : decode c_L_law 1071 = .ok (.iconst 0, 1) := by decide +kernel
theorem d_L_law_1072 : decode c_L_law 1072 = .ok (.ireturn, 1) := by decide +kernel
theorem d_L_law_1073 : decode c_L_law 1073 = .ok (.goto 456, 3) := by decide +kernel
theorem d_L_law_1076 : decode c_L_law 1076 = .ok (.aload_n 1, 1) := by decide +kernel
theorem d_L_law_1077 : decode c_L_law 1077 = .ok (.aload_n 0, 1) := by decide +kernel
theorem d_L_law_1078 : decode c_L_law 1078 = .ok (.iload 4, 2) := by decide +kernel
theorem d_L_law_1080 : decode c_L_law 1080 = .ok (.iconst 1, 1) := by decide +kernel
theorem d_L_law_1081 : decode c_L_law 1081 = .ok (.iadd, 1) := by decide +kernel
theorem d_L_law_1082 : decode c_L_law 1082 = .ok (.iaload, 1) := by decide +kernel
theorem d_L_law_1083 : decode c_L_law 1083 = .ok (.aload_n 3, 1) := by decide +kernel
theorem d_L_law_1084 : decode c_L_law 1084 = .ok (.invokestatic 156, 3) := by decide +kernel
theorem d_L_law_1087 : decode c_L_law 1087 = .ok (.istore 5, 2) := by decide +kernel
theorem d_L_law_1089 : decode c_L_law 1089 = .ok (.aload_n 2, 1) := by decide +kernel
theorem d_L_law_1090 : decode c_L_law 1090 = .ok (.aload_n 0, 1) := by decide +kernel
theorem d_L_law_1091 : decode c_L_law 1091 = .ok (.iload 4, 2) := by decide +kernel
theorem d_L_law_1093 : decode c_L_law 1093 = .ok (.iconst 1, 1) := by decide +kernel
theorem d_L_law_1094 : decode c_L_law 1094 = .ok (.iadd, 1) := by decide +kernel
theorem d_L_law_1095 : decode c_L_law 1095 = .ok (.iaload, 1) := by decide +kernel
theorem d_L_law_1096 : decode c_L_law 1096 = .ok (.invokevirtual 158, 3) := by decide +kernel
theorem d_L_law_1099 : decode c_L_law 1099 = .ok (.istore 6, 2) := by decide +kernel
theorem d_L_law_1101 : decode c_L_law 1101 = .ok (.aload_n 2, 1) := by decide +kernel
theorem d_L_law_1102 : decode c_L_law 1102 = .ok (.invokevirtual 103, 3) := by decide +kernel
theorem d_L_law_1105 : decode c_L_law 1105 = .ok (.iload 5, 2) := by decide +kernel
theorem d_L_law_1107 : decode c_L_law 1107 = .ok (.if_icmp .eq 5, 3) := by decide +kernel
theorem d_L_law_1110 : decode c_L_law 1110 = .ok (.iconst 0, 1) := by decide +kernel
theorem d_L_law_1111 : decode c_L_law 1111 = .ok (.ireturn, 1) := by decide +kernel
theorem d_L_law_1112 : decode c_L_law 1112 = .ok (.iload 5, 2) := by decide +kernel
theorem d_L_law_1114 : decode c_L_law 1114 = .ok (.ifCond .ne 15, 3) := by decide +kernel
theorem d_L_law_1117 : decode c_L_law 1117 = .ok (.aload_n 3, 1) := by decide +kernel
theorem d_L_law_1118 : decode c_L_law 1118 = .ok (.iconst 0, 1) := by decide +kernel
theorem d_L_law_1119 : decode c_L_law 1119 = .ok (.laload, 1) := by decide +kernel
theorem d_L_law_1120 : decode c_L_law 1120 = .ok (.iload 6, 2) := by decide +kernel
theorem d_L_law_1122 : decode c_L_law 1122 = .ok (.i2l, 1) := by decide +kernel
theorem d_L_law_1123 : decode c_L_law 1123 = .ok (.lcmp, 1) := by decide +kernel
theorem d_L_law_1124 : decode c_L_law 1124 = .ok (.ifCond .eq 5, 3) := by decide +kernel
theorem d_L_law_1127 : decode c_L_law 1127 = .ok (.iconst 0, 1) := by decide +kernel
theorem d_L_law_1128 : decode c_L_law 1128 = .ok (.ireturn, 1) := by decide +kernel
theorem d_L_law_1129 : decode c_L_law 1129 = .ok (.goto 400, 3) := by decide +kernel
theorem d_L_law_1132 : decode c_L_law 1132 = .ok (.aload_n 1, 1) := by decide +kernel
theorem d_L_law_1133 : decode c_L_law 1133 = .ok (.aload_n 0, 1) := by decide +kernel
theorem d_L_law_1134 : decode c_L_law 1134 = .ok (.iload 4, 2) := by decide +kernel
theorem d_L_law_1136 : decode c_L_law 1136 = .ok (.iconst 1, 1) := by decide +kernel
theorem d_L_law_1137 : decode c_L_law 1137 = .ok (.iadd, 1) := by decide +kernel
theorem d_L_law_1138 : decode c_L_law 1138 = .ok (.iaload, 1) := by decide +kernel
theorem d_L_law_1139 : decode c_L_law 1139 = .ok (.aload_n 3, 1) := by decide +kernel
theorem d_L_law_1140 : decode c_L_law 1140 = .ok (.invokestatic 159, 3) := by decide +kernel
theorem d_L_law_1143 : decode c_L_law 1143 = .ok (.istore 5, 2) := by decide +kernel
theorem d_L_law_1145 : decode c_L_law 1145 = .ok (.aload_n 2, 1) := by decide +kernel
theorem d_L_law_1146 : decode c_L_law 1146 = .ok (.aload_n 0, 1) := by decide +kernel
theorem d_L_law_1147 : decode c_L_law 1147 = .ok (.iload 4, 2) := by decide +kernel
theorem d_L_law_1149 : decode c_L_law 1149 = .ok (.iconst 1, 1) := by decide +kernel
theorem d_L_law_1150 : decode c_L_law 1150 = .ok (.iadd, 1) := by decide +kernel
theorem d_L_law_1151 : decode c_L_law 1151 = .ok (.iaload, 1) := by decide +kernel
theorem d_L_law_1152 : decode c_L_law 1152 = .ok (.invokevirtual 161, 3) := by decide +kernel
theorem d_L_law_1155 : decode c_L_law 1155 = .ok (.istore 6, 2) := by decide +kernel
theorem d_L_law_1157 : decode c_L_law 1157 = .ok (.aload_n 2, 1) := by decide +kernel
theorem d_L_law_1158 : decode c_L_law 1158 = .ok (.invokevirtual 103, 3) := by decide +kernel
theorem d_L_law_1161 : decode c_L_law 1161 = .ok (.iload 5, 2) := by decide +kernel
theorem d_L_law_1163 : decode c_L_law 1163 = .ok (.if_icmp .eq 5, 3) := by decide +kernel
theorem d_L_law_1166 : decode c_L_law 1166 = .ok (.iconst 0, 1) := by decide +kernel
theorem d_L_law_1167 : decode c_L_law 1167 = .ok (.ireturn, 1) := by decide +kernel
theorem d_L_law_1168 : decode c_L_law 1168 = .ok (.iload 5, 2) := by decide +kernel
theorem d_L_law_1170 : decode c_L_law 1170 = .ok (.ifCond .ne 15, 3) := by decide +kernel
theorem d_L_law_1173 : decode c_L_law 1173 = .ok (.aload_n 3, 1) := by decide +kernel
theorem d_L_law_1174 : decode c_L_law 1174 = .ok (.iconst 0, 1) := by decide +kernel
theorem d_L_law_1175 : decode c_L_law 1175 = .ok (.laload, 1) := by decide +kernel
theorem d_L_law_1176 : decode c_L_law 1176 = .ok (.iload 6, 2) := by decide +kernel
theorem d_L_law_1178 : decode c_L_law 1178 = .ok (.i2l, 1) := by decide +kernel
theorem d_L_law_1179 : decode c_L_law 1179 = .ok (.lcmp, 1) := by decide +kernel
theorem d_L_law_1180 : decode c_L_law 1180 = .ok (.ifCond .eq 5, 3) := by decide +kernel
theorem d_L_law_1183 : decode c_L_law 1183 = .ok (.iconst 0, 1) := by decide +kernel
theorem d_L_law_1184 : decode c_L_law 1184 = .ok (.ireturn, 1) := by decide +kernel
theorem d_L_law_1185 : decode c_L_law 1185 = .ok (.goto 344, 3) := by decide +kernel
theorem d_L_law_1188 : decode c_L_law 1188 = .ok (.aload_n 1, 1) := by decide +kernel
theorem d_L_law_1189 : decode c_L_law 1189 = .ok (.aload_n 0, 1) := by decide +kernel
theorem d_L_law_1190 : decode c_L_law 1190 = .ok (.iload 4, 2) := by decide +kernel
theorem d_L_law_1192 : decode c_L_law 1192 = .ok (.iconst 1, 1) := by decide +kernel
theorem d_L_law_1193 : decode c_L_law 1193 = .ok (.iadd, 1) := by decide +kernel
theorem d_L_law_1194 : decode c_L_law 1194 = .ok (.iaload, 1) := by decide +kernel
theorem d_L_law_1195 : decode c_L_law 1195 = .ok (.aload_n 0, 1) := by decide +kernel
theorem d_L_law_1196 : decode c_L_law 1196 = .ok (.iload 4, 2) := by decide +kernel
theorem d_L_law_1198 : decode c_L_law 1198 = .ok (.iconst 2, 1) := by decide +kernel
theorem d_L_law_1199 : decode c_L_law 1199 = .ok (.iadd, 1) := by decide +kernel
theorem d_L_law_1200 : decode c_L_law 1200 = .ok (.iaload, 1) := by decide +kernel
theorem d_L_law_1201 : decode c_L_law 1201 = .ok (.invokestatic 162, 3) := by decide +kernel
theorem d_L_law_1204 : decode c_L_law 1204 = .ok (.istore 5, 2) := by decide +kernel
theorem d_L_law_1206 : decode c_L_law 1206 = .ok (.aload_n 2, 1) := by decide +kernel
theorem d_L_law_1207 : decode c_L_law 1207 = .ok (.aload_n 0, 1) := by decide +kernel
theorem d_L_law_1208 : decode c_L_law 1208 = .ok (.iload 4, 2) := by decide +kernel
theorem d_L_law_1210 : decode c_L_law 1210 = .ok (.iconst 1, 1) := by decide +kernel
theorem d_L_law_1211 : decode c_L_law 1211 = .ok (.iadd, 1) := by decide +kernel
theorem d_L_law_1212 : decode c_L_law 1212 = .ok (.iaload, 1) := by decide +kernel
theorem d_L_law_1213 : decode c_L_law 1213 = .ok (.aload_n 0, 1) := by decide +kernel
theorem d_L_law_1214 : decode c_L_law 1214 = .ok (.iload 4, 2) := by decide +kernel
theorem d_L_law_1216 : decode c_L_law 1216 = .ok (.iconst 2, 1) := by decide +kernel
theorem d_L_law_1217 : decode c_L_law 1217 = .ok (.iadd, 1) := by decide +kernel
theorem d_L_law_1218 : decode c_L_law 1218 = .ok (.iaload, 1) := by decide +kernel
theorem d_L_law_1219 : decode c_L_law 1219 = .ok (.invokevirtual 164, 3) := by decide +kernel
theorem d_L_law_1222 : decode c_L_law 1222 = .ok (.aload_n 2, 1) := by decide +kernel
theorem d_L_law_1223 : decode c_L_law 1223 = .ok (.invokevirtual 103, 3) := by decide +kernel
theorem d_L_law_1226 : decode c_L_law 1226 = .ok (.iload 5, 2) := by decide +kernel
theorem d_L_law_1228 : decode c_L_law 1228 = .ok (.if_icmp .eq 5, 3) := by decide +kernel
theorem d_L_law_1231 : decode c_L_law 1231 = .ok (.iconst 0, 1) := by decide +kernel
theorem d_L_law_1232 : decode c_L_law 1232 = .ok (.ireturn, 1) := by decide +kernel
theorem d_L_law_1233 : decode c_L_law 1233 = .ok (.goto 296, 3) := by decide +kernel
theorem d_L_law_1236 : decode c_L_law 1236 = .ok (.aload_n 1, 1) := by decide +kernel
theorem d_L_law_1237 : decode c_L_law 1237 = .ok (.invokevirtual 165, 3) := by decide +kernel
theorem d_L_law_1240 : decode c_L_law 1240 = .ok (.aload_n 2, 1) := by decide +kernel
theorem d_L_law_1241 : decode c_L_law 1241 = .ok (.invokevirtual 168, 3) := by decide +kernel
theorem d_L_law_1244 : decode c_L_law 1244 = .ok (.if_icmp .eq 285, 3) := by decide +kernel
theorem d_L_law_1247 : decode c_L_law 1247 = .ok (.iconst 0, 1) := by decide +kernel
theorem d_L_law_1248 : decode c_L_law 1248 = .ok (.ireturn, 1) := by decide +kernel
theorem d_L_law_1249 : decode c_L_law 1249 = .ok (.aload_n 1, 1) := by decide +kernel
theorem d_L_law_1250 : decode c_L_law 1250 = .ok (.invokevirtual 169, 3) := by decide +kernel
theorem d_L_law_1253 : decode c_L_law 1253 = .ok (.aload_n 2, 1) := by decide +kernel
theorem d_L_law_1254 : decode c_L_law 1254 = .ok (.invokevirtual 172, 3) := by decide +kernel
theorem d_L_law_1257 : decode c_L_law 1257 = .ok (.if_icmp .eq 272, 3) := by decide +kernel
theorem d_L_law_1260 : decode c_L_law 1260 = .ok (.iconst 0, 1) := by decide +kernel
theorem d_L_law_1261 : decode c_L_law 1261 = .ok (.ireturn, 1) := by decide +kernel
theorem d_L_law_1262 : decode c_L_law 1262 = .ok (.aload_n 1, 1) := by decide +kernel
theorem d_L_law_1263 : decode c_L_law 1263 = .ok (.aload_n 0, 1) := by decide +kernel
theorem d_L_law_1264 : decode c_L_law 1264 = .ok (.iload 4, 2) := by decide +kernel
theorem d_L_law_1266 : decode c_L_law 1266 = .ok (.iconst 1, 1) := by decide +kernel
theorem d_L_law_1267 : decode c_L_law 1267 = .ok (.iadd, 1) := by decide +kernel
theorem d_L_law_1268 : decode c_L_law 1268 = .ok (.iaload, 1) := by decide +kernel
theorem d_L_law_1269 : decode c_L_law 1269 = .ok (.aload_n 0, 1) := by decide +kernel
theorem d_L_law_1270 : decode c_L_law 1270 = .ok (.iload 4, 2) := by decide +kernel
theorem d_L_law_1272 : decode c_L_law 1272 = .ok (.iconst 2, 1) := by decide +kernel
theorem d_L_law_1273 : decode c_L_law 1273 = .ok (.iadd, 1) := by decide +kernel
theorem d_L_law_1274 : decode c_L_law 1274 = .ok (.iaload, 1) := by decide +kernel
theorem d_L_law_1275 : decode c_L_law 1275 = .ok (.aload_n 0, 1) := by decide +kernel
theorem d_L_law_1276 : decode c_L_law 1276 = .ok (.iload 4, 2) := by decide +kernel
theorem d_L_law_1278 : decode c_L_law 1278 = .ok (.iconst 3, 1) := by decide +kernel
theorem d_L_law_1279 : decode c_L_law 1279 = .ok (.iadd, 1) := by decide +kernel
theorem d_L_law_1280 : decode c_L_law 1280 = .ok (.iaload, 1) := by decide +kernel
theorem d_L_law_1281 : decode c_L_law 1281 = .ok (.aload_n 3, 1) := by decide +kernel
theorem d_L_law_1282 : decode c_L_law 1282 = .ok (.invokestatic 173, 3) := by decide +kernel
theorem d_L_law_1285 : decode c_L_law 1285 = .ok (.istore 5, 2) := by decide +kernel
theorem d_L_law_1287 : decode c_L_law 1287 = .ok (.aload_n 2, 1) := by decide +kernel
theorem d_L_law_1288 : decode c_L_law 1288 = .ok (.aload_n 0, 1) := by decide +kernel
theorem d_L_law_1289 : decode c_L_law 1289 = .ok (.iload 4, 2) := by decide +kernel
theorem d_L_law_1291 : decode c_L_law 1291 = .ok (.iconst 1, 1) := by decide +kernel
theorem d_L_law_1292 : decode c_L_law 1292 = .ok (.iadd, 1) := by decide +kernel
theorem d_L_law_1293 : decode c_L_law 1293 = .ok (.iaload, 1) := by decide +kernel
theorem d_L_law_1294 : decode c_L_law 1294 = .ok (.aload_n 0, 1) := by decide +kernel
theorem d_L_law_1295 : decode c_L_law 1295 = .ok (.iload 4, 2) := by decide +kernel
theorem d_L_law_1297 : decode c_L_law 1297 = .ok (.iconst 2, 1) := by decide +kernel
theorem d_L_law_1298 : decode c_L_law 1298 = .ok (.iadd, 1) := by decide +kernel
theorem d_L_law_1299 : decode c_L_law 1299 = .ok (.iaload, 1) := by decide +kernel
theorem d_L_law_1300 : decode c_L_law 1300 = .ok (.aload_n 0, 1) := by decide +kernel
theorem d_L_law_1301 : decode c_L_law 1301 = .ok (.iload 4, 2) := by decide +kernel
theorem d_L_law_1303 : decode c_L_law 1303 = .ok (.iconst 3, 1) := by decide +kernel
theorem d_L_law_1304 : decode c_L_law 1304 = .ok (.iadd, 1) := by decide +kernel
theorem d_L_law_1305 : decode c_L_law 1305 = .ok (.iaload, 1) := by decide +kernel
theorem d_L_law_1306 : decode c_L_law 1306 = .ok (.invokevirtual 175, 3) := by decide +kernel
theorem d_L_law_1309 : decode c_L_law 1309 = .ok (.istore 6, 2) := by decide +kernel
theorem d_L_law_1311 : decode c_L_law 1311 = .ok (.aload_n 2, 1) := by decide +kernel
theorem d_L_law_1312 : decode c_L_law 1312 = .ok (.invokevirtual 103, 3) := by decide +kernel
theorem d_L_law_1315 : decode c_L_law 1315 = .ok (.iload 5, 2) := by decide +kernel
theorem d_L_law_1317 : decode c_L_law 1317 = .ok (.if_icmp .eq 5, 3) := by decide +kernel
theorem d_L_law_1320 : decode c_L_law 1320 = .ok (.iconst 0, 1) := by decide +kernel
theorem d_L_law_1321 : decode c_L_law 1321 = .ok (.ireturn, 1) := by decide +kernel
theorem d_L_law_1322 : decode c_L_law 1322 = .ok (.iload 5, 2) := by decide +kernel
theorem d_L_law_1324 : decode c_L_law 1324 = .ok (.ifCond .ne 15, 3) := by decide +kernel
theorem d_L_law_1327 : decode c_L_law 1327 = .ok (.aload_n 3, 1) := by decide +kernel
theorem d_L_law_1328 : decode c_L_law 1328 = .ok (.iconst 0, 1) := by decide +kernel
theorem d_L_law_1329 : decode c_L_law 1329 = .ok (.laload, 1) := by decide +kernel
theorem d_L_law_1330 : decode c_L_law 1330 = .ok (.iload 6, 2) := by decide +kernel
theorem d_L_law_1332 : decode c_L_law 1332 = .ok (.i2l, 1) := by decide +kernel
theorem d_L_law_1333 : decode c_L_law 1333 = .ok (.lcmp, 1) := by decide +kernel
theorem d_L_law_1334 : decode c_L_law 1334 = .ok (.ifCond .eq 5, 3) := by decide +kernel
theorem d_L_law_1337 : decode c_L_law 1337 = .ok (.iconst 0, 1) := by decide +kernel
theorem d_L_law_1338 : decode c_L_law 1338 = .ok (.ireturn, 1) := by decide +kernel
theorem d_L_law_1339 : decode c_L_law 1339 = .ok (.goto 190, 3) := by decide +kernel
theorem d_L_law_1342 : decode c_L_law 1342 = .ok (.aload_n 1, 1) := by decide +kernel
theorem d_L_law_1343 : decode c_L_law 1343 = .ok (.aload_n 0, 1) := by decide +kernel
theorem d_L_law_1344 : decode c_L_law 1344 = .ok (.iload 4, 2) := by decide +kernel
theorem d_L_law_1346 : decode c_L_law 1346 = .ok (.iconst 1, 1) := by decide +kernel
theorem d_L_law_1347 : decode c_L_law 1347 = .ok (.iadd, 1) := by decide +kernel
theorem d_L_law_1348 : decode c_L_law 1348 = .ok (.iaload, 1) := by decide +kernel
theorem d_L_law_1349 : decode c_L_law 1349 = .ok (.aload_n 3, 1) := by decide +kernel
theorem d_L_law_1350 : decode c_L_law 1350 = .ok (.invokestatic 176, 3) := by decide +kernel
theorem d_L_law_1353 : decode c_L_law 1353 = .ok (.istore 5, 2) := by decide +kernel
theorem d_L_law_1355 : decode c_L_law 1355 = .ok (.aload_n 2, 1) := by decide +kernel
theorem d_L_law_1356 : decode c_L_law 1356 = .ok (.aload_n 0, 1) := by decide +kernel
theorem d_L_law_1357 : decode c_L_law 1357 = .ok (.iload 4, 2) := by decide +kernel
theorem d_L_law_1359 : decode c_L_law 1359 = .ok (.iconst 1, 1) := by decide +kernel
theorem d_L_law_1360 : decode c_L_law 1360 = .ok (.iadd, 1) := by decide +kernel
theorem d_L_law_1361 : decode c_L_law 1361 = .ok (.iaload, 1) := by decide +kernel
theorem d_L_law_1362 : decode c_L_law 1362 = .ok (.invokevirtual 178, 3) := by decide +kernel
theorem d_L_law_1365 : decode c_L_law 1365 = .ok (.istore 6, 2) := by decide +kernel
theorem d_L_law_1367 : decode c_L_law 1367 = .ok (.aload_n 2, 1) := by decide +kernel
theorem d_L_law_1368 : decode c_L_law 1368 = .ok (.invokevirtual 103, 3) := by decide +kernel
theorem d_L_law_1371 : decode c_L_law 1371 = .ok (.iload 5, 2) := by decide +kernel
theorem d_L_law_1373 : decode c_L_law 1373 = .ok (.if_icmp .eq 5, 3) := by decide +kernel
theorem d_L_law_1376 : decode c_L_law 1376 = .ok (.iconst 0, 1) := by decide +kernel
theorem d_L_law_1377 : decode c_L_law 1377 = .ok (.ireturn, 1) := by decide +kernel
theorem d_L_law_1378 : decode c_L_law 1378 = .ok (.iload 5, 2) := by decide +kernel
theorem d_L_law_1380 : decode c_L_law 1380 = .ok (.ifCond .ne 15, 3) := by decide +kernel
theorem d_L_law_1383 : decode c_L_law 1383 = .ok (.aload_n 3, 1) := by decide +kernel
theorem d_L_law_1384 : decode c_L_law 1384 = .ok (.iconst 0, 1) := by decide +kernel
theorem d_L_law_1385 : decode c_L_law 1385 = .ok (.laload, 1) := by decide +kernel
theorem d_L_law_1386 : decode c_L_law 1386 = .ok (.iload 6, 2) := by decide +kernel
theorem d_L_law_1388 : decode c_L_law 1388 = .ok (.i2l, 1) := by decide +kernel
theorem d_L_law_1389 : decode c_L_law 1389 = .ok (.lcmp, 1) := by decide +kernel
theorem d_L_law_1390 : decode c_L_law 1390 = .ok (.ifCond .eq 5, 3) := by decide +kernel
theorem d_L_law_1393 : decode c_L_law 1393 = .ok (.iconst 0, 1) := by decide +kernel
theorem d_L_law_1394 : decode c_L_law 1394 = .ok (.ireturn, 1) := by decide +kernel
theorem d_L_law_1395 : decode c_L_law 1395 = .ok (.goto 134, 3) := by decide +kernel
theorem d_L_law_1398 : decode c_L_law 1398 = .ok (.aload_n 1, 1) := by decide +kernel
theorem d_L_law_1399 : decode c_L_law 1399 = .ok (.aload_n 0, 1) := by decide +kernel
theorem d_L_law_1400 : decode c_L_law 1400 = .ok (.iload 4, 2) := by decide +kernel
theorem d_L_law_1402 : decode c_L_law 1402 = .ok (.iconst 1, 1) := by decide +kernel
theorem d_L_law_1403 : decode c_L_law 1403 = .ok (.iadd, 1) := by decide +kernel
theorem d_L_law_1404 : decode c_L_law 1404 = .ok (.iaload, 1) := by decide +kernel
theorem d_L_law_1405 : decode c_L_law 1405 = .ok (.aload_n 0, 1) := by decide +kernel
theorem d_L_law_1406 : decode c_L_law 1406 = .ok (.iload 4, 2) := by decide +kernel
theorem d_L_law_1408 : decode c_L_law 1408 = .ok (.iconst 2, 1) := by decide +kernel
theorem d_L_law_1409 : decode c_L_law 1409 = .ok (.iadd, 1) := by decide +kernel
theorem d_L_law_1410 : decode c_L_law 1410 = .ok (.iaload, 1) := by decide +kernel
theorem d_L_law_1411 : decode c_L_law 1411 = .ok (.aload_n 3, 1) := by decide +kernel
theorem d_L_law_1412 : decode c_L_law 1412 = .ok (.invokestatic 179, 3) := by decide +kernel
theorem d_L_law_1415 : decode c_L_law 1415 = .ok (.istore 5, 2) := by decide +kernel
theorem d_L_law_1417 : decode c_L_law 1417 = .ok (.aload_n 2, 1) := by decide +kernel
theorem d_L_law_1418 : decode c_L_law 1418 = .ok (.aload_n 0, 1) := by decide +kernel
theorem d_L_law_1419 : decode c_L_law 1419 = .ok (.iload 4, 2) := by decide +kernel
theorem d_L_law_1421 : decode c_L_law 1421 = .ok (.iconst 1, 1) := by decide +kernel
theorem d_L_law_1422 : decode c_L_law 1422 = .ok (.iadd, 1) := by decide +kernel
theorem d_L_law_1423 : decode c_L_law 1423 = .ok (.iaload, 1) := by decide +kernel
theorem d_L_law_1424 : decode c_L_law 1424 = .ok (.aload_n 0, 1) := by decide +kernel
theorem d_L_law_1425 : decode c_L_law 1425 = .ok (.iload 4, 2) := by decide +kernel
theorem d_L_law_1427 : decode c_L_law 1427 = .ok (.iconst 2, 1) := by decide +kernel
theorem d_L_law_1428 : decode c_L_law 1428 = .ok (.iadd, 1) := by decide +kernel
theorem d_L_law_1429 : decode c_L_law 1429 = .ok (.iaload, 1) := by decide +kernel
theorem d_L_law_1430 : decode c_L_law 1430 = .ok (.invokevirtual 181, 3) := by decide +kernel
theorem d_L_law_1433 : decode c_L_law 1433 = .ok (.istore 6, 2) := by decide +kernel
theorem d_L_law_1435 : decode c_L_law 1435 = .ok (.aload_n 2, 1) := by decide +kernel
theorem d_L_law_1436 : decode c_L_law 1436 = .ok (.invokevirtual 103, 3) := by decide +kernel
theorem d_L_law_1439 : decode c_L_law 1439 = .ok (.iload 5, 2) := by decide +kernel
theorem d_L_law_1441 : decode c_L_law 1441 = .ok (.if_icmp .eq 5, 3) := by decide +kernel
theorem d_L_law_1444 : decode c_L_law 1444 = .ok (.iconst 0, 1) := by decide +kernel
theorem d_L_law_1445 : decode c_L_law 1445 = .ok (.ireturn, 1) := by decide +kernel
theorem d_L_law_1446 : decode c_L_law 1446 = .ok (.iload 5, 2) := by decide +kernel
theorem d_L_law_1448 : decode c_L_law 1448 = .ok (.ifCond .ne 22, 3) := by decide +kernel
theorem d_L_law_1451 : decode c_L_law 1451 = .ok (.aload_n 3, 1) := by decide +kernel
theorem d_L_law_1452 : decode c_L_law 1452 = .ok (.iconst 0, 1) := by decide +kernel
theorem d_L_law_1453 : decode c_L_law 1453 = .ok (.laload, 1) := by decide +kernel
theorem d_L_law_1454 : decode c_L_law 1454 = .ok (.iload 6, 2) := by decide +kernel
theorem d_L_law_1456 : decode c_L_law 1456 = .ok (.ifCond .eq 7, 3) := by decide +kernel
theorem d_L_law_1459 : decode c_L_law 1459 = .ok (.lconst 1, 1) := by decide +kernel
theorem d_L_law_1460 : decode c_L_law 1460 = .ok (.goto 4, 3) := by decide +kernel
theorem d_L_law_1463 : decode c_L_law 1463 = .ok (.lconst 0, 1) := by decide +kernel
theorem d_L_law_1464 : decode c_L_law 1464 = .ok (.lcmp, 1) := by decide +kernel
theorem d_L_law_1465 : decode c_L_law 1465 = .ok (.ifCond .eq 5, 3) := by decide +kernel
theorem d_L_law_1468 : decode c_L_law 1468 = .ok (.iconst 0, 1) := by decide +kernel
theorem d_L_law_1469 : decode c_L_law 1469 = .ok (.ireturn, 1) := by decide +kernel
theorem d_L_law_1470 : decode c_L_law 1470 = .ok (.goto 59, 3) := by decide +kernel
theorem d_L_law_1473 : decode c_L_law 1473 = .ok (.aload_n 1, 1) := by decide +kernel
theorem d_L_law_1474 : decode c_L_law 1474 = .ok (.aload_n 0, 1) := by decide +kernel
theorem d_L_law_1475 : decode c_L_law 1475 = .ok (.iload 4, 2) := by decide +kernel
theorem d_L_law_1477 : decode c_L_law 1477 = .ok (.iconst 1, 1) := by decide +kernel
theorem d_L_law_1478 : decode c_L_law 1478 = .ok (.iadd, 1) := by decide +kernel
theorem d_L_law_1479 : decode c_L_law 1479 = .ok (.iaload, 1) := by decide +kernel
theorem d_L_law_1480 : decode c_L_law 1480 = .ok (.aload_n 3, 1) := by decide +kernel
theorem d_L_law_1481 : decode c_L_law 1481 = .ok (.invokestatic 182, 3) := by decide +kernel
theorem d_L_law_1484 : decode c_L_law 1484 = .ok (.istore 5, 2) := by decide +kernel
theorem d_L_law_1486 : decode c_L_law 1486 = .ok (.aload_n 2, 1) := by decide +kernel
theorem d_L_law_1487 : decode c_L_law 1487 = .ok (.aload_n 0, 1) := by decide +kernel
theorem d_L_law_1488 : decode c_L_law 1488 = .ok (.iload 4, 2) := by decide +kernel
theorem d_L_law_1490 : decode c_L_law 1490 = .ok (.iconst 1, 1) := by decide +kernel
theorem d_L_law_1491 : decode c_L_law 1491 = .ok (.iadd, 1) := by decide +kernel
theorem d_L_law_1492 : decode c_L_law 1492 = .ok (.iaload, 1) := by decide +kernel
theorem d_L_law_1493 : decode c_L_law 1493 = .ok (.invokevirtual 184, 3) := by decide +kernel
theorem d_L_law_1496 : decode c_L_law 1496 = .ok (.istore 6, 2) := by decide +kernel
theorem d_L_law_1498 : decode c_L_law 1498 = .ok (.aload_n 2, 1) := by decide +kernel
theorem d_L_law_1499 : decode c_L_law 1499 = .ok (.invokevirtual 103, 3) := by decide +kernel
theorem d_L_law_1502 : decode c_L_law 1502 = .ok (.iload 5, 2) := by decide +kernel
theorem d_L_law_1504 : decode c_L_law 1504 = .ok (.if_icmp .eq 5, 3) := by decide +kernel
theorem d_L_law_1507 : decode c_L_law 1507 = .ok (.iconst 0, 1) := by decide +kernel
theorem d_L_law_1508 : decode c_L_law 1508 = .ok (.ireturn, 1) := by decide +kernel
theorem d_L_law_1509 : decode c_L_law 1509 = .ok (.iload 5, 2) := by decide +kernel
theorem d_L_law_1511 : decode c_L_law 1511 = .ok (.ifCond .ne 15, 3) := by decide +kernel
theorem d_L_law_1514 : decode c_L_law 1514 = .ok (.aload_n 3, 1) := by decide +kernel
theorem d_L_law_1515 : decode c_L_law 1515 = .ok (.iconst 0, 1) := by decide +kernel
theorem d_L_law_1516 : decode c_L_law 1516 = .ok (.laload, 1) := by decide +kernel
theorem d_L_law_1517 : decode c_L_law 1517 = .ok (.iload 6, 2) := by decide +kernel
theorem d_L_law_1519 : decode c_L_law 1519 = .ok (.i2l, 1) := by decide +kernel
theorem d_L_law_1520 : decode c_L_law 1520 = .ok (.lcmp, 1) := by decide +kernel
theorem d_L_law_1521 : decode c_L_law 1521 = .ok (.ifCond .eq 5, 3) := by decide +kernel
theorem d_L_law_1524 : decode c_L_law 1524 = .ok (.iconst 0, 1) := by decide +kernel
theorem d_L_law_1525 : decode c_L_law 1525 = .ok (.ireturn, 1) := by decide +kernel
theorem d_L_law_1526 : decode c_L_law 1526 = .ok (.goto 3, 3) := by decide +kernel
theorem d_L_law_1529 : decode c_L_law 1529 = .ok (.iinc 4 5, 3) := by decide +kernel
theorem d_L_law_1532 : decode c_L_law 1532 = .ok (.goto (-1489), 3) := by decide +kernel
theorem d_L_law_1535 : decode c_L_law 1535 = .ok (.iconst 1, 1) := by decide +kernel
theorem d_L_law_1536 : decode c_L_law 1536 = .ok (.ireturn, 1) := by decide +kernel
