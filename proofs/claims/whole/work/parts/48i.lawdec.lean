theorem dl_1144 : decode code 1144 = .ok (.aload_n 0, 1) := by decide +kernel
theorem dl_1145 : decode code 1145 = .ok (.iload_n 3, 1) := by decide +kernel
theorem dl_1146 : decode code 1146 = .ok (.iconst 3, 1) := by decide +kernel
theorem dl_1147 : decode code 1147 = .ok (.iadd, 1) := by decide +kernel
theorem dl_1148 : decode code 1148 = .ok (.iaload, 1) := by decide +kernel
theorem dl_1149 : decode code 1149 = .ok (.aload_n 0, 1) := by decide +kernel
theorem dl_1150 : decode code 1150 = .ok (.iload_n 3, 1) := by decide +kernel
theorem dl_1151 : decode code 1151 = .ok (.iconst 4, 1) := by decide +kernel
theorem dl_1152 : decode code 1152 = .ok (.iadd, 1) := by decide +kernel
theorem dl_1153 : decode code 1153 = .ok (.iaload, 1) := by decide +kernel
theorem dl_1154 : decode code 1154 = .ok (.aload_n 0, 1) := by decide +kernel
theorem dl_1155 : decode code 1155 = .ok (.iload_n 3, 1) := by decide +kernel
theorem dl_1156 : decode code 1156 = .ok (.iconst 5, 1) := by decide +kernel
theorem dl_1157 : decode code 1157 = .ok (.iadd, 1) := by decide +kernel
theorem dl_1158 : decode code 1158 = .ok (.iaload, 1) := by decide +kernel
theorem dl_1159 : decode code 1159 = .ok (.invokevirtual 145, 3) := by decide +kernel
theorem dl_1162 : decode code 1162 = .ok (.if_icmp .eq 133, 3) := by decide +kernel
theorem dl_1167 : decode code 1167 = .ok (.aload_n 1, 1) := by decide +kernel
theorem dl_1168 : decode code 1168 = .ok (.aload_n 0, 1) := by decide +kernel
theorem dl_1169 : decode code 1169 = .ok (.iload_n 3, 1) := by decide +kernel
theorem dl_1170 : decode code 1170 = .ok (.iconst 1, 1) := by decide +kernel
theorem dl_1171 : decode code 1171 = .ok (.iadd, 1) := by decide +kernel
theorem dl_1172 : decode code 1172 = .ok (.iaload, 1) := by decide +kernel
theorem dl_1173 : decode code 1173 = .ok (.invokevirtual 146, 3) := by decide +kernel
theorem dl_1176 : decode code 1176 = .ok (.aload_n 2, 1) := by decide +kernel
theorem dl_1177 : decode code 1177 = .ok (.aload_n 0, 1) := by decide +kernel
theorem dl_1178 : decode code 1178 = .ok (.iload_n 3, 1) := by decide +kernel
theorem dl_1179 : decode code 1179 = .ok (.iconst 1, 1) := by decide +kernel
theorem dl_1180 : decode code 1180 = .ok (.iadd, 1) := by decide +kernel
theorem dl_1181 : decode code 1181 = .ok (.iaload, 1) := by decide +kernel
theorem dl_1182 : decode code 1182 = .ok (.invokevirtual 149, 3) := by decide +kernel
theorem dl_1185 : decode code 1185 = .ok (.if_icmp .eq 110, 3) := by decide +kernel
theorem dl_1190 : decode code 1190 = .ok (.aload_n 1, 1) := by decide +kernel
theorem dl_1191 : decode code 1191 = .ok (.aload_n 0, 1) := by decide +kernel
theorem dl_1192 : decode code 1192 = .ok (.iload_n 3, 1) := by decide +kernel
theorem dl_1193 : decode code 1193 = .ok (.iconst 1, 1) := by decide +kernel
theorem dl_1194 : decode code 1194 = .ok (.iadd, 1) := by decide +kernel
theorem dl_1195 : decode code 1195 = .ok (.iaload, 1) := by decide +kernel
theorem dl_1196 : decode code 1196 = .ok (.invokevirtual 150, 3) := by decide +kernel
theorem dl_1199 : decode code 1199 = .ok (.aload_n 2, 1) := by decide +kernel
theorem dl_1200 : decode code 1200 = .ok (.aload_n 0, 1) := by decide +kernel
theorem dl_1201 : decode code 1201 = .ok (.iload_n 3, 1) := by decide +kernel
theorem dl_1202 : decode code 1202 = .ok (.iconst 1, 1) := by decide +kernel
theorem dl_1203 : decode code 1203 = .ok (.iadd, 1) := by decide +kernel
theorem dl_1204 : decode code 1204 = .ok (.iaload, 1) := by decide +kernel
theorem dl_1205 : decode code 1205 = .ok (.invokevirtual 153, 3) := by decide +kernel
theorem dl_1208 : decode code 1208 = .ok (.if_icmp .eq 87, 3) := by decide +kernel
theorem dl_1213 : decode code 1213 = .ok (.aload_n 1, 1) := by decide +kernel
theorem dl_1214 : decode code 1214 = .ok (.aload_n 0, 1) := by decide +kernel
theorem dl_1215 : decode code 1215 = .ok (.iload_n 3, 1) := by decide +kernel
theorem dl_1216 : decode code 1216 = .ok (.iconst 1, 1) := by decide +kernel
theorem dl_1217 : decode code 1217 = .ok (.iadd, 1) := by decide +kernel
theorem dl_1218 : decode code 1218 = .ok (.iaload, 1) := by decide +kernel
theorem dl_1219 : decode code 1219 = .ok (.aload_n 0, 1) := by decide +kernel
theorem dl_1220 : decode code 1220 = .ok (.iload_n 3, 1) := by decide +kernel
theorem dl_1221 : decode code 1221 = .ok (.iconst 2, 1) := by decide +kernel
theorem dl_1222 : decode code 1222 = .ok (.iadd, 1) := by decide +kernel
theorem dl_1223 : decode code 1223 = .ok (.iaload, 1) := by decide +kernel
theorem dl_1224 : decode code 1224 = .ok (.invokevirtual 154, 3) := by decide +kernel
theorem dl_1227 : decode code 1227 = .ok (.aload_n 2, 1) := by decide +kernel
theorem dl_1228 : decode code 1228 = .ok (.aload_n 0, 1) := by decide +kernel
theorem dl_1229 : decode code 1229 = .ok (.iload_n 3, 1) := by decide +kernel
theorem dl_1230 : decode code 1230 = .ok (.iconst 1, 1) := by decide +kernel
theorem dl_1231 : decode code 1231 = .ok (.iadd, 1) := by decide +kernel
theorem dl_1232 : decode code 1232 = .ok (.iaload, 1) := by decide +kernel
theorem dl_1233 : decode code 1233 = .ok (.aload_n 0, 1) := by decide +kernel
theorem dl_1234 : decode code 1234 = .ok (.iload_n 3, 1) := by decide +kernel
theorem dl_1235 : decode code 1235 = .ok (.iconst 2, 1) := by decide +kernel
theorem dl_1236 : decode code 1236 = .ok (.iadd, 1) := by decide +kernel
theorem dl_1237 : decode code 1237 = .ok (.iaload, 1) := by decide +kernel
theorem dl_1238 : decode code 1238 = .ok (.invokevirtual 157, 3) := by decide +kernel
theorem dl_1241 : decode code 1241 = .ok (.if_icmp .eq 54, 3) := by decide +kernel
theorem dl_1246 : decode code 1246 = .ok (.aload_n 1, 1) := by decide +kernel
theorem dl_1247 : decode code 1247 = .ok (.invokevirtual 158, 3) := by decide +kernel
theorem dl_1250 : decode code 1250 = .ok (.aload_n 2, 1) := by decide +kernel
theorem dl_1251 : decode code 1251 = .ok (.invokevirtual 161, 3) := by decide +kernel
theorem dl_1254 : decode code 1254 = .ok (.if_icmp .eq 41, 3) := by decide +kernel
theorem dl_1259 : decode code 1259 = .ok (.aload_n 1, 1) := by decide +kernel
theorem dl_1260 : decode code 1260 = .ok (.invokevirtual 162, 3) := by decide +kernel
theorem dl_1263 : decode code 1263 = .ok (.aload_n 2, 1) := by decide +kernel
theorem dl_1264 : decode code 1264 = .ok (.invokevirtual 165, 3) := by decide +kernel
theorem dl_1267 : decode code 1267 = .ok (.if_icmp .eq 28, 3) := by decide +kernel
theorem dl_1272 : decode code 1272 = .ok (.aload_n 1, 1) := by decide +kernel
theorem dl_1273 : decode code 1273 = .ok (.aload_n 0, 1) := by decide +kernel
theorem dl_1274 : decode code 1274 = .ok (.iload_n 3, 1) := by decide +kernel
theorem dl_1275 : decode code 1275 = .ok (.iconst 1, 1) := by decide +kernel
theorem dl_1276 : decode code 1276 = .ok (.iadd, 1) := by decide +kernel
theorem dl_1277 : decode code 1277 = .ok (.iaload, 1) := by decide +kernel
theorem dl_1278 : decode code 1278 = .ok (.invokevirtual 166, 3) := by decide +kernel
theorem dl_1281 : decode code 1281 = .ok (.aload_n 2, 1) := by decide +kernel
