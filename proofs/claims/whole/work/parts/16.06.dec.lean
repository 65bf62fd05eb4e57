theorem dL_1142 : decode code 1142 = .ok (.iconst 2, 1) := by decide +kernel
theorem dL_1143 : decode code 1143 = .ok (.iadd, 1) := by decide +kernel
theorem dL_1144 : decode code 1144 = .ok (.iaload, 1) := by decide +kernel
theorem dL_1145 : decode code 1145 = .ok (.aload_n 0, 1) := by decide +kernel
theorem dL_1146 : decode code 1146 = .ok (.iload_n 3, 1) := by decide +kernel
theorem dL_1147 : decode code 1147 = .ok (.iconst 3, 1) := by decide +kernel
theorem dL_1148 : decode code 1148 = .ok (.iadd, 1) := by decide +kernel
theorem dL_1149 : decode code 1149 = .ok (.iaload, 1) := by decide +kernel
theorem dL_1150 : decode code 1150 = .ok (.invokevirtual 142, 3) := by decide +kernel
theorem dL_1153 : decode code 1153 = .ok (.aload_n 2, 1) := by decide +kernel
theorem dL_1154 : decode code 1154 = .ok (.aload_n 0, 1) := by decide +kernel
theorem dL_1155 : decode code 1155 = .ok (.iload_n 3, 1) := by decide +kernel
theorem dL_1156 : decode code 1156 = .ok (.iconst 1, 1) := by decide +kernel
theorem dL_1157 : decode code 1157 = .ok (.iadd, 1) := by decide +kernel
theorem dL_1158 : decode code 1158 = .ok (.iaload, 1) := by decide +kernel
theorem dL_1159 : decode code 1159 = .ok (.aload_n 0, 1) := by decide +kernel
theorem dL_1160 : decode code 1160 = .ok (.iload_n 3, 1) := by decide +kernel
theorem dL_1161 : decode code 1161 = .ok (.iconst 2, 1) := by decide +kernel
theorem dL_1162 : decode code 1162 = .ok (.iadd, 1) := by decide +kernel
theorem dL_1163 : decode code 1163 = .ok (.iaload, 1) := by decide +kernel
theorem dL_1164 : decode code 1164 = .ok (.aload_n 0, 1) := by decide +kernel
theorem dL_1165 : decode code 1165 = .ok (.iload_n 3, 1) := by decide +kernel
theorem dL_1166 : decode code 1166 = .ok (.iconst 3, 1) := by decide +kernel
theorem dL_1167 : decode code 1167 = .ok (.iadd, 1) := by decide +kernel
theorem dL_1168 : decode code 1168 = .ok (.iaload, 1) := by decide +kernel
theorem dL_1169 : decode code 1169 = .ok (.invokevirtual 145, 3) := by decide +kernel
theorem dL_1172 : decode code 1172 = .ok (.if_icmp .eq 285, 3) := by decide +kernel
theorem dL_1175 : decode code 1175 = .ok (.iconst 0, 1) := by decide +kernel
theorem dL_1176 : decode code 1176 = .ok (.ireturn, 1) := by decide +kernel
theorem dL_1177 : decode code 1177 = .ok (.aload_n 1, 1) := by decide +kernel
theorem dL_1178 : decode code 1178 = .ok (.aload_n 0, 1) := by decide +kernel
theorem dL_1179 : decode code 1179 = .ok (.iload_n 3, 1) := by decide +kernel
theorem dL_1180 : decode code 1180 = .ok (.iconst 1, 1) := by decide +kernel
theorem dL_1181 : decode code 1181 = .ok (.iadd, 1) := by decide +kernel
theorem dL_1182 : decode code 1182 = .ok (.iaload, 1) := by decide +kernel
theorem dL_1183 : decode code 1183 = .ok (.aload_n 0, 1) := by decide +kernel
theorem dL_1184 : decode code 1184 = .ok (.iload_n 3, 1) := by decide +kernel
theorem dL_1185 : decode code 1185 = .ok (.iconst 2, 1) := by decide +kernel
theorem dL_1186 : decode code 1186 = .ok (.iadd, 1) := by decide +kernel
theorem dL_1187 : decode code 1187 = .ok (.iaload, 1) := by decide +kernel
theorem dL_1188 : decode code 1188 = .ok (.aload_n 0, 1) := by decide +kernel
theorem dL_1189 : decode code 1189 = .ok (.iload_n 3, 1) := by decide +kernel
theorem dL_1190 : decode code 1190 = .ok (.iconst 3, 1) := by decide +kernel
theorem dL_1191 : decode code 1191 = .ok (.iadd, 1) := by decide +kernel
theorem dL_1192 : decode code 1192 = .ok (.iaload, 1) := by decide +kernel
theorem dL_1193 : decode code 1193 = .ok (.invokevirtual 146, 3) := by decide +kernel
theorem dL_1196 : decode code 1196 = .ok (.aload_n 2, 1) := by decide +kernel
theorem dL_1197 : decode code 1197 = .ok (.aload_n 0, 1) := by decide +kernel
theorem dL_1198 : decode code 1198 = .ok (.iload_n 3, 1) := by decide +kernel
theorem dL_1199 : decode code 1199 = .ok (.iconst 1, 1) := by decide +kernel
theorem dL_1200 : decode code 1200 = .ok (.iadd, 1) := by decide +kernel
theorem dL_1201 : decode code 1201 = .ok (.iaload, 1) := by decide +kernel
theorem dL_1202 : decode code 1202 = .ok (.aload_n 0, 1) := by decide +kernel
theorem dL_1203 : decode code 1203 = .ok (.iload_n 3, 1) := by decide +kernel
theorem dL_1204 : decode code 1204 = .ok (.iconst 2, 1) := by decide +kernel
theorem dL_1205 : decode code 1205 = .ok (.iadd, 1) := by decide +kernel
theorem dL_1206 : decode code 1206 = .ok (.iaload, 1) := by decide +kernel
theorem dL_1207 : decode code 1207 = .ok (.aload_n 0, 1) := by decide +kernel
theorem dL_1208 : decode code 1208 = .ok (.iload_n 3, 1) := by decide +kernel
theorem dL_1209 : decode code 1209 = .ok (.iconst 3, 1) := by decide +kernel
theorem dL_1210 : decode code 1210 = .ok (.iadd, 1) := by decide +kernel
theorem dL_1211 : decode code 1211 = .ok (.iaload, 1) := by decide +kernel
theorem dL_1212 : decode code 1212 = .ok (.invokevirtual 149, 3) := by decide +kernel
theorem dL_1215 : decode code 1215 = .ok (.if_icmp .eq 242, 3) := by decide +kernel
theorem dL_1218 : decode code 1218 = .ok (.iconst 0, 1) := by decide +kernel
theorem dL_1219 : decode code 1219 = .ok (.ireturn, 1) := by decide +kernel
theorem dL_1220 : decode code 1220 = .ok (.aload_n 1, 1) := by decide +kernel
theorem dL_1221 : decode code 1221 = .ok (.aload_n 0, 1) := by decide +kernel
theorem dL_1222 : decode code 1222 = .ok (.iload_n 3, 1) := by decide +kernel
theorem dL_1223 : decode code 1223 = .ok (.iconst 1, 1) := by decide +kernel
theorem dL_1224 : decode code 1224 = .ok (.iadd, 1) := by decide +kernel
theorem dL_1225 : decode code 1225 = .ok (.iaload, 1) := by decide +kernel
theorem dL_1226 : decode code 1226 = .ok (.aload_n 0, 1) := by decide +kernel
theorem dL_1227 : decode code 1227 = .ok (.iload_n 3, 1) := by decide +kernel
theorem dL_1228 : decode code 1228 = .ok (.iconst 2, 1) := by decide +kernel
theorem dL_1229 : decode code 1229 = .ok (.iadd, 1) := by decide +kernel
theorem dL_1230 : decode code 1230 = .ok (.iaload, 1) := by decide +kernel
theorem dL_1231 : decode code 1231 = .ok (.aload_n 0, 1) := by decide +kernel
theorem dL_1232 : decode code 1232 = .ok (.iload_n 3, 1) := by decide +kernel
theorem dL_1233 : decode code 1233 = .ok (.iconst 3, 1) := by decide +kernel
theorem dL_1234 : decode code 1234 = .ok (.iadd, 1) := by decide +kernel
theorem dL_1235 : decode code 1235 = .ok (.iaload, 1) := by decide +kernel
theorem dL_1236 : decode code 1236 = .ok (.ifCond .eq 7, 3) := by decide +kernel
theorem dL_1239 : decode code 1239 = .ok (.iconst 1, 1) := by decide +kernel
theorem dL_1240 : decode code 1240 = .ok (.goto 4, 3) := by decide +kernel
theorem dL_1243 : decode code 1243 = .ok (.iconst 0, 1) := by decide +kernel
theorem dL_1244 : decode code 1244 = .ok (.invokevirtual 150, 3) := by decide +kernel
theorem dL_1247 : decode code 1247 = .ok (.aload_n 2, 1) := by decide +kernel
theorem dL_1248 : decode code 1248 = .ok (.aload_n 0, 1) := by decide +kernel
theorem dL_1249 : decode code 1249 = .ok (.iload_n 3, 1) := by decide +kernel
theorem dL_1250 : decode code 1250 = .ok (.iconst 1, 1) := by decide +kernel
theorem dL_1251 : decode code 1251 = .ok (.iadd, 1) := by decide +kernel
theorem dL_1252 : decode code 1252 = .ok (.iaload, 1) := by decide +kernel
theorem dL_1253 : decode code 1253 = .ok (.aload_n 0, 1) := by decide +kernel
theorem dL_1254 : decode code 1254 = .ok (.iload_n 3, 1) := by decide +kernel
theorem dL_1255 : decode code 1255 = .ok (.iconst 2, 1) := by decide +kernel
theorem dL_1256 : decode code 1256 = .ok (.iadd, 1) := by decide +kernel
theorem dL_1257 : decode code 1257 = .ok (.iaload, 1) := by decide +kernel
theorem dL_1258 : decode code 1258 = .ok (.aload_n 0, 1) := by decide +kernel
theorem dL_1259 : decode code 1259 = .ok (.iload_n 3, 1) := by decide +kernel
theorem dL_1260 : decode code 1260 = .ok (.iconst 3, 1) := by decide +kernel
theorem dL_1261 : decode code 1261 = .ok (.iadd, 1) := by decide +kernel
theorem dL_1262 : decode code 1262 = .ok (.iaload, 1) := by decide +kernel
theorem dL_1263 : decode code 1263 = .ok (.ifCond .eq 7, 3) := by decide +kernel
theorem dL_1266 : decode code 1266 = .ok (.iconst 1, 1) := by decide +kernel
theorem dL_1267 : decode code 1267 = .ok (.goto 4, 3) := by decide +kernel
theorem dL_1270 : decode code 1270 = .ok (.iconst 0, 1) := by decide +kernel
theorem dL_1271 : decode code 1271 = .ok (.invokevirtual 154, 3) := by decide +kernel
theorem dL_1274 : decode code 1274 = .ok (.if_icmp .eq 183, 3) := by decide +kernel
theorem dL_1277 : decode code 1277 = .ok (.iconst 0, 1) := by decide +kernel
theorem dL_1278 : decode code 1278 = .ok (.ireturn, 1) := by decide +kernel
theorem dL_1279 : decode code 1279 = .ok (.aload_n 1, 1) := by decide +kernel
theorem dL_1280 : decode code 1280 = .ok (.invokevirtual 155, 3) := by decide +kernel
theorem dL_1283 : decode code 1283 = .ok (.aload_n 2, 1) := by decide +kernel
theorem dL_1284 : decode code 1284 = .ok (.invokevirtual 158, 3) := by decide +kernel
theorem dL_1287 : decode code 1287 = .ok (.if_icmp .eq 170, 3) := by decide +kernel
theorem dL_1290 : decode code 1290 = .ok (.iconst 0, 1) := by decide +kernel
theorem dL_1291 : decode code 1291 = .ok (.ireturn, 1) := by decide +kernel
theorem dL_1292 : decode code 1292 = .ok (.aload_n 1, 1) := by decide +kernel
theorem dL_1293 : decode code 1293 = .ok (.aload_n 0, 1) := by decide +kernel
theorem dL_1294 : decode code 1294 = .ok (.iload_n 3, 1) := by decide +kernel
theorem dL_1295 : decode code 1295 = .ok (.iconst 1, 1) := by decide +kernel
theorem dL_1296 : decode code 1296 = .ok (.iadd, 1) := by decide +kernel
theorem dL_1297 : decode code 1297 = .ok (.iaload, 1) := by decide +kernel
theorem dL_1298 : decode code 1298 = .ok (.aload_n 0, 1) := by decide +kernel
theorem dL_1299 : decode code 1299 = .ok (.iload_n 3, 1) := by decide +kernel
theorem dL_1300 : decode code 1300 = .ok (.iconst 2, 1) := by decide +kernel
theorem dL_1301 : decode code 1301 = .ok (.iadd, 1) := by decide +kernel
theorem dL_1302 : decode code 1302 = .ok (.iaload, 1) := by decide +kernel
theorem dL_1303 : decode code 1303 = .ok (.aload_n 0, 1) := by decide +kernel
