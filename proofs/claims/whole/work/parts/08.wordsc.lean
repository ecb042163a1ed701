theorem wd_1182 : Cond.methodLink RX9 86 yX9_isIn ∈ hw_tbl := hw_sub (List.mem_of_getElem? (i := 1299) (by decide +kernel)) rfl
theorem wd_1181 : Cond.code yX9_end cX9_end 2 (some .int) ∈ hw_tbl := hw_sub (List.mem_of_getElem? (i := 1298) (by decide +kernel)) rfl
theorem wd_1179 : Cond.instanceMethod yX9_end ∈ hw_tbl := hw_sub (List.mem_of_getElem? (i := 1296) (by decide +kernel)) rfl
theorem wd_1180 : Cond.selects RX9 yX9_end yX9_end ∈ hw_tbl := hw_sub (List.mem_of_getElem? (i := 1297) (by decide +kernel)) rfl
theorem wd_1053 : Cond.fieldLink RX9 90 RX9 "wrong" "I" ∈ hw_tbl := hw_sub (List.mem_of_getElem? (i := 1170) (by decide +kernel)) rfl
theorem wd_1211 : Cond.code yX9_fails cX9_fails 3 (some .boolean) ∈ hw_tbl := hw_sub (List.mem_of_getElem? (i := 1328) (by decide +kernel)) rfl
theorem wd_1210 : Cond.instanceMethod yX9_fails ∈ hw_tbl := hw_sub (List.mem_of_getElem? (i := 1327) (by decide +kernel)) rfl
theorem ws_54 : Cond.selects RX9 yX9_fails yX9_fails ∈ hw_tbl := hw_sub (List.mem_of_getElem? (i := 54) (by decide +kernel)) rfl
theorem wd_1204 : Cond.code yX9_byteAt cX9_byteAt 2 (some .int) ∈ hw_tbl := hw_sub (List.mem_of_getElem? (i := 1321) (by decide +kernel)) rfl
theorem wd_1203 : Cond.instanceMethod yX9_byteAt ∈ hw_tbl := hw_sub (List.mem_of_getElem? (i := 1320) (by decide +kernel)) rfl
theorem ws_53 : Cond.selects RX9 yX9_byteAt yX9_byteAt ∈ hw_tbl := hw_sub (List.mem_of_getElem? (i := 53) (by decide +kernel)) rfl
theorem wd_1052 : Cond.fieldLink RX9 93 RX9 "at" "I" ∈ hw_tbl := hw_sub (List.mem_of_getElem? (i := 1169) (by decide +kernel)) rfl
theorem wd_1201 : Cond.methodLink RX9 96 yX9_byteAt ∈ hw_tbl := hw_sub (List.mem_of_getElem? (i := 1318) (by decide +kernel)) rfl
theorem wd_1200 : Cond.code yX9_next cX9_next 1 (some .int) ∈ hw_tbl := hw_sub (List.mem_of_getElem? (i := 1317) (by decide +kernel)) rfl
theorem wd_1199 : Cond.instanceMethod yX9_next ∈ hw_tbl := hw_sub (List.mem_of_getElem? (i := 1316) (by decide +kernel)) rfl
theorem ws_52 : Cond.selects RX9 yX9_next yX9_next ∈ hw_tbl := hw_sub (List.mem_of_getElem? (i := 52) (by decide +kernel)) rfl
theorem wd_1197 : Cond.methodLink RX9 100 yX9_next ∈ hw_tbl := hw_sub (List.mem_of_getElem? (i := 1314) (by decide +kernel)) rfl
theorem wd_1235 : Cond.code yX9_takes cX9_takes 2 (some .boolean) ∈ hw_tbl := hw_sub (List.mem_of_getElem? (i := 1352) (by decide +kernel)) rfl
theorem wd_1234 : Cond.instanceMethod yX9_takes ∈ hw_tbl := hw_sub (List.mem_of_getElem? (i := 1351) (by decide +kernel)) rfl
theorem ws_60 : Cond.selects RX9 yX9_takes yX9_takes ∈ hw_tbl := hw_sub (List.mem_of_getElem? (i := 60) (by decide +kernel)) rfl
theorem wd_1232 : Cond.methodLink RX9 104 yX9_takes ∈ hw_tbl := hw_sub (List.mem_of_getElem? (i := 1349) (by decide +kernel)) rfl
theorem wd_1208 : Cond.methodLink RX9 108 yX9_fails ∈ hw_tbl := hw_sub (List.mem_of_getElem? (i := 1325) (by decide +kernel)) rfl
theorem wd_1239 : Cond.code yX9_needs cX9_needs 2 (some .boolean) ∈ hw_tbl := hw_sub (List.mem_of_getElem? (i := 1356) (by decide +kernel)) rfl
theorem wd_1238 : Cond.instanceMethod yX9_needs ∈ hw_tbl := hw_sub (List.mem_of_getElem? (i := 1355) (by decide +kernel)) rfl
theorem ws_61 : Cond.selects RX9 yX9_needs yX9_needs ∈ hw_tbl := hw_sub (List.mem_of_getElem? (i := 61) (by decide +kernel)) rfl
theorem wd_1054 : Cond.fieldLink RX9 112 RX9 "digit" "I" ∈ hw_tbl := hw_sub (List.mem_of_getElem? (i := 1171) (by decide +kernel)) rfl
theorem wd_1231 : Cond.code yX9_readsDigit cX9_readsDigit 3 (some .boolean) ∈ hw_tbl := hw_sub (List.mem_of_getElem? (i := 1348) (by decide +kernel)) rfl
theorem wd_1230 : Cond.instanceMethod yX9_readsDigit ∈ hw_tbl := hw_sub (List.mem_of_getElem? (i := 1347) (by decide +kernel)) rfl
theorem ws_59 : Cond.selects RX9 yX9_readsDigit yX9_readsDigit ∈ hw_tbl := hw_sub (List.mem_of_getElem? (i := 59) (by decide +kernel)) rfl
theorem wd_1215 : Cond.code yX9_ruleAt cX9_ruleAt 4 (some .int) ∈ hw_tbl := hw_sub (List.mem_of_getElem? (i := 1332) (by decide +kernel)) rfl
theorem wd_1214 : Cond.instanceMethod yX9_ruleAt ∈ hw_tbl := hw_sub (List.mem_of_getElem? (i := 1331) (by decide +kernel)) rfl
theorem ws_55 : Cond.selects RX9 yX9_ruleAt yX9_ruleAt ∈ hw_tbl := hw_sub (List.mem_of_getElem? (i := 55) (by decide +kernel)) rfl
theorem wd_1219 : Cond.code yX9_lays cX9_lays 5 none ∈ hw_tbl := hw_sub (List.mem_of_getElem? (i := 1336) (by decide +kernel)) rfl
theorem wd_1218 : Cond.instanceMethod yX9_lays ∈ hw_tbl := hw_sub (List.mem_of_getElem? (i := 1335) (by decide +kernel)) rfl
theorem ws_56 : Cond.selects RX9 yX9_lays yX9_lays ∈ hw_tbl := hw_sub (List.mem_of_getElem? (i := 56) (by decide +kernel)) rfl
theorem wd_1228 : Cond.methodLink RX9 115 yX9_readsDigit ∈ hw_tbl := hw_sub (List.mem_of_getElem? (i := 1345) (by decide +kernel)) rfl
theorem wd_1057 : Cond.fieldLink RX9 119 RX9 "kindMany" "I" ∈ hw_tbl := hw_sub (List.mem_of_getElem? (i := 1174) (by decide +kernel)) rfl
theorem wd_1216 : Cond.methodLink RX9 122 yX9_lays ∈ hw_tbl := hw_sub (List.mem_of_getElem? (i := 1333) (by decide +kernel)) rfl
theorem wd_1236 : Cond.methodLink RX9 126 yX9_needs ∈ hw_tbl := hw_sub (List.mem_of_getElem? (i := 1353) (by decide +kernel)) rfl
theorem wd_1227 : Cond.code yX9_readsV cX9_readsV 2 (some .boolean) ∈ hw_tbl := hw_sub (List.mem_of_getElem? (i := 1344) (by decide +kernel)) rfl
theorem wd_1226 : Cond.instanceMethod yX9_readsV ∈ hw_tbl := hw_sub (List.mem_of_getElem? (i := 1343) (by decide +kernel)) rfl
theorem ws_58 : Cond.selects RX9 yX9_readsV yX9_readsV ∈ hw_tbl := hw_sub (List.mem_of_getElem? (i := 58) (by decide +kernel)) rfl
theorem wd_1243 : Cond.code yX9_readsA cX9_readsA 3 (some .boolean) ∈ hw_tbl := hw_sub (List.mem_of_getElem? (i := 1360) (by decide +kernel)) rfl
theorem wd_1242 : Cond.instanceMethod yX9_readsA ∈ hw_tbl := hw_sub (List.mem_of_getElem? (i := 1359) (by decide +kernel)) rfl
theorem ws_62 : Cond.selects RX9 yX9_readsA yX9_readsA ∈ hw_tbl := hw_sub (List.mem_of_getElem? (i := 62) (by decide +kernel)) rfl
theorem wd_1240 : Cond.methodLink RX9 132 yX9_readsA ∈ hw_tbl := hw_sub (List.mem_of_getElem? (i := 1357) (by decide +kernel)) rfl
theorem wd_1224 : Cond.methodLink RX9 129 yX9_readsV ∈ hw_tbl := hw_sub (List.mem_of_getElem? (i := 1341) (by decide +kernel)) rfl
theorem wd_1223 : Cond.code yX9_readsRest cX9_readsRest 3 (some .boolean) ∈ hw_tbl := hw_sub (List.mem_of_getElem? (i := 1340) (by decide +kernel)) rfl
theorem wd_1222 : Cond.instanceMethod yX9_readsRest ∈ hw_tbl := hw_sub (List.mem_of_getElem? (i := 1339) (by decide +kernel)) rfl
theorem ws_57 : Cond.selects RX9 yX9_readsRest yX9_readsRest ∈ hw_tbl := hw_sub (List.mem_of_getElem? (i := 57) (by decide +kernel)) rfl
theorem wd_1207 : Cond.code yX9_isAlone cX9_isAlone 1 (some .boolean) ∈ hw_tbl := hw_sub (List.mem_of_getElem? (i := 1324) (by decide +kernel)) rfl
theorem wd_1206 : Cond.static yX9_isAlone ∈ hw_tbl := hw_sub (List.mem_of_getElem? (i := 1323) (by decide +kernel)) rfl
theorem wd_1205 : Cond.methodLink RX9 135 yX9_isAlone ∈ hw_tbl := hw_sub (List.mem_of_getElem? (i := 1322) (by decide +kernel)) rfl
theorem wd_1212 : Cond.methodLink RX9 138 yX9_ruleAt ∈ hw_tbl := hw_sub (List.mem_of_getElem? (i := 1329) (by decide +kernel)) rfl
theorem wd_1220 : Cond.methodLink RX9 142 yX9_readsRest ∈ hw_tbl := hw_sub (List.mem_of_getElem? (i := 1337) (by decide +kernel)) rfl
theorem wd_1196 : Cond.code yX9_readsRule cX9_readsRule 4 (some .boolean) ∈ hw_tbl := hw_sub (List.mem_of_getElem? (i := 1313) (by decide +kernel)) rfl
theorem wd_1195 : Cond.instanceMethod yX9_readsRule ∈ hw_tbl := hw_sub (List.mem_of_getElem? (i := 1312) (by decide +kernel)) rfl
theorem ws_51 : Cond.selects RX9 yX9_readsRule yX9_readsRule ∈ hw_tbl := hw_sub (List.mem_of_getElem? (i := 51) (by decide +kernel)) rfl
theorem wd_1193 : Cond.methodLink RX9 145 yX9_readsRule ∈ hw_tbl := hw_sub (List.mem_of_getElem? (i := 1310) (by decide +kernel)) rfl
theorem wd_1192 : Cond.code yX9_readsKind cX9_readsKind 2 (some .boolean) ∈ hw_tbl := hw_sub (List.mem_of_getElem? (i := 1309) (by decide +kernel)) rfl
theorem wd_1191 : Cond.instanceMethod yX9_readsKind ∈ hw_tbl := hw_sub (List.mem_of_getElem? (i := 1308) (by decide +kernel)) rfl
theorem ws_50 : Cond.selects RX9 yX9_readsKind yX9_readsKind ∈ hw_tbl := hw_sub (List.mem_of_getElem? (i := 50) (by decide +kernel)) rfl
theorem wd_1189 : Cond.methodLink RX9 148 yX9_readsKind ∈ hw_tbl := hw_sub (List.mem_of_getElem? (i := 1306) (by decide +kernel)) rfl
theorem wd_1188 : Cond.code yX9_kind cX9_kind 2 (some .int) ∈ hw_tbl := hw_sub (List.mem_of_getElem? (i := 1305) (by decide +kernel)) rfl
theorem wd_1186 : Cond.instanceMethod yX9_kind ∈ hw_tbl := hw_sub (List.mem_of_getElem? (i := 1303) (by decide +kernel)) rfl
theorem wd_1187 : Cond.selects RX9 yX9_kind yX9_kind ∈ hw_tbl := hw_sub (List.mem_of_getElem? (i := 1304) (by decide +kernel)) rfl
theorem wd_1295 : Cond.code yX9_elementAt cX9_elementAt 4 (some .int) ∈ hw_tbl := hw_sub (List.mem_of_getElem? (i := 1412) (by decide +kernel)) rfl
theorem wd_1294 : Cond.instanceMethod yX9_elementAt ∈ hw_tbl := hw_sub (List.mem_of_getElem? (i := 1411) (by decide +kernel)) rfl
theorem ws_71 : Cond.selects RX9 yX9_elementAt yX9_elementAt ∈ hw_tbl := hw_sub (List.mem_of_getElem? (i := 71) (by decide +kernel)) rfl
theorem wd_1260 : Cond.constantLong RX9 152 (97) ∈ hw_tbl := hw_sub (List.mem_of_getElem? (i := 1377) (by decide +kernel)) rfl
theorem wd_1261 : Cond.constantLong RX9 154 (122) ∈ hw_tbl := hw_sub (List.mem_of_getElem? (i := 1378) (by decide +kernel)) rfl
theorem wd_1259 : Cond.code yX9_wayHere cX9_wayHere 3 (some .int) ∈ hw_tbl := hw_sub (List.mem_of_getElem? (i := 1376) (by decide +kernel)) rfl
theorem wd_1258 : Cond.instanceMethod yX9_wayHere ∈ hw_tbl := hw_sub (List.mem_of_getElem? (i := 1375) (by decide +kernel)) rfl
theorem ws_65 : Cond.selects RX9 yX9_wayHere yX9_wayHere ∈ hw_tbl := hw_sub (List.mem_of_getElem? (i := 65) (by decide +kernel)) rfl
theorem wd_1063 : Cond.fieldLink RX9 156 RX9 "written" "I" ∈ hw_tbl := hw_sub (List.mem_of_getElem? (i := 1180) (by decide +kernel)) rfl
theorem wd_1061 : Cond.fieldLink RX9 159 RX9 "marchMany" "I" ∈ hw_tbl := hw_sub (List.mem_of_getElem? (i := 1178) (by decide +kernel)) rfl
theorem wd_1265 : Cond.code yX9_readsOp cX9_readsOp 5 (some .boolean) ∈ hw_tbl := hw_sub (List.mem_of_getElem? (i := 1382) (by decide +kernel)) rfl
theorem wd_1264 : Cond.instanceMethod yX9_readsOp ∈ hw_tbl := hw_sub (List.mem_of_getElem? (i := 1381) (by decide +kernel)) rfl
theorem ws_66 : Cond.selects RX9 yX9_readsOp yX9_readsOp ∈ hw_tbl := hw_sub (List.mem_of_getElem? (i := 66) (by decide +kernel)) rfl
theorem wd_1256 : Cond.methodLink RX9 162 yX9_wayHere ∈ hw_tbl := hw_sub (List.mem_of_getElem? (i := 1373) (by decide +kernel)) rfl
theorem wd_1064 : Cond.fieldLink RX9 165 RX9 "anysRead" "I" ∈ hw_tbl := hw_sub (List.mem_of_getElem? (i := 1181) (by decide +kernel)) rfl
theorem wd_1262 : Cond.methodLink RX9 168 yX9_readsOp ∈ hw_tbl := hw_sub (List.mem_of_getElem? (i := 1379) (by decide +kernel)) rfl
theorem wd_1255 : Cond.code yX9_readsElement cX9_readsElement 4 (some .boolean) ∈ hw_tbl := hw_sub (List.mem_of_getElem? (i := 1372) (by decide +kernel)) rfl
theorem wd_1254 : Cond.instanceMethod yX9_readsElement ∈ hw_tbl := hw_sub (List.mem_of_getElem? (i := 1371) (by decide +kernel)) rfl
theorem ws_64 : Cond.selects RX9 yX9_readsElement yX9_readsElement ∈ hw_tbl := hw_sub (List.mem_of_getElem? (i := 64) (by decide +kernel)) rfl
theorem wd_1252 : Cond.methodLink RX9 171 yX9_readsElement ∈ hw_tbl := hw_sub (List.mem_of_getElem? (i := 1369) (by decide +kernel)) rfl
theorem wd_1251 : Cond.code yX9_readsMarch cX9_readsMarch 2 (some .boolean) ∈ hw_tbl := hw_sub (List.mem_of_getElem? (i := 1368) (by decide +kernel)) rfl
theorem wd_1250 : Cond.instanceMethod yX9_readsMarch ∈ hw_tbl := hw_sub (List.mem_of_getElem? (i := 1367) (by decide +kernel)) rfl
theorem ws_63 : Cond.selects RX9 yX9_readsMarch yX9_readsMarch ∈ hw_tbl := hw_sub (List.mem_of_getElem? (i := 63) (by decide +kernel)) rfl
theorem wd_1248 : Cond.methodLink RX9 174 yX9_readsMarch ∈ hw_tbl := hw_sub (List.mem_of_getElem? (i := 1365) (by decide +kernel)) rfl
theorem wd_1247 : Cond.code yX9_march cX9_march 2 (some .int) ∈ hw_tbl := hw_sub (List.mem_of_getElem? (i := 1364) (by decide +kernel)) rfl
theorem wd_1245 : Cond.instanceMethod yX9_march ∈ hw_tbl := hw_sub (List.mem_of_getElem? (i := 1362) (by decide +kernel)) rfl
theorem wd_1246 : Cond.selects RX9 yX9_march yX9_march ∈ hw_tbl := hw_sub (List.mem_of_getElem? (i := 1363) (by decide +kernel)) rfl
theorem wd_1273 : Cond.code yX9_isKind cX9_isKind 2 (some .boolean) ∈ hw_tbl := hw_sub (List.mem_of_getElem? (i := 1390) (by decide +kernel)) rfl
theorem wd_1272 : Cond.instanceMethod yX9_isKind ∈ hw_tbl := hw_sub (List.mem_of_getElem? (i := 1389) (by decide +kernel)) rfl
theorem ws_67 : Cond.selects RX9 yX9_isKind yX9_isKind ∈ hw_tbl := hw_sub (List.mem_of_getElem? (i := 67) (by decide +kernel)) rfl
theorem wd_1290 : Cond.code yX9_isMarch cX9_isMarch 2 (some .boolean) ∈ hw_tbl := hw_sub (List.mem_of_getElem? (i := 1407) (by decide +kernel)) rfl
theorem wd_1289 : Cond.instanceMethod yX9_isMarch ∈ hw_tbl := hw_sub (List.mem_of_getElem? (i := 1406) (by decide +kernel)) rfl
theorem ws_70 : Cond.selects RX9 yX9_isMarch yX9_isMarch ∈ hw_tbl := hw_sub (List.mem_of_getElem? (i := 70) (by decide +kernel)) rfl
theorem wd_1278 : Cond.code yX9_isPair cX9_isPair 4 (some .boolean) ∈ hw_tbl := hw_sub (List.mem_of_getElem? (i := 1395) (by decide +kernel)) rfl
theorem wd_1277 : Cond.instanceMethod yX9_isPair ∈ hw_tbl := hw_sub (List.mem_of_getElem? (i := 1394) (by decide +kernel)) rfl
theorem ws_68 : Cond.selects RX9 yX9_isPair yX9_isPair ∈ hw_tbl := hw_sub (List.mem_of_getElem? (i := 68) (by decide +kernel)) rfl
theorem wd_1292 : Cond.methodLink RX9 177 yX9_elementAt ∈ hw_tbl := hw_sub (List.mem_of_getElem? (i := 1409) (by decide +kernel)) rfl
theorem wd_1299 : Cond.code yX9_anys cX9_anys 4 (some .int) ∈ hw_tbl := hw_sub (List.mem_of_getElem? (i := 1416) (by decide +kernel)) rfl
theorem wd_1298 : Cond.instanceMethod yX9_anys ∈ hw_tbl := hw_sub (List.mem_of_getElem? (i := 1415) (by decide +kernel)) rfl
theorem ws_72 : Cond.selects RX9 yX9_anys yX9_anys ∈ hw_tbl := hw_sub (List.mem_of_getElem? (i := 72) (by decide +kernel)) rfl
theorem wd_1351 : Cond.code yX9_bit cX9_bit 2 (some .int) ∈ hw_tbl := hw_sub (List.mem_of_getElem? (i := 1468) (by decide +kernel)) rfl
theorem wd_1350 : Cond.instanceMethod yX9_bit ∈ hw_tbl := hw_sub (List.mem_of_getElem? (i := 1467) (by decide +kernel)) rfl
theorem ws_82 : Cond.selects RX9 yX9_bit yX9_bit ∈ hw_tbl := hw_sub (List.mem_of_getElem? (i := 82) (by decide +kernel)) rfl
theorem wd_1345 : Cond.methodLink RX9 186 yX9_with ∈ hw_tbl := hw_sub (List.mem_of_getElem? (i := 1462) (by decide +kernel)) rfl
theorem wd_1344 : Cond.code yX9_sets cX9_sets 3 none ∈ hw_tbl := hw_sub (List.mem_of_getElem? (i := 1461) (by decide +kernel)) rfl
theorem wd_1343 : Cond.instanceMethod yX9_sets ∈ hw_tbl := hw_sub (List.mem_of_getElem? (i := 1460) (by decide +kernel)) rfl
theorem ws_81 : Cond.selects RX9 yX9_sets yX9_sets ∈ hw_tbl := hw_sub (List.mem_of_getElem? (i := 81) (by decide +kernel)) rfl
theorem wd_1336 : Cond.code yX9_ruleOf cX9_ruleOf 6 (some .int) ∈ hw_tbl := hw_sub (List.mem_of_getElem? (i := 1453) (by decide +kernel)) rfl
theorem wd_1335 : Cond.instanceMethod yX9_ruleOf ∈ hw_tbl := hw_sub (List.mem_of_getElem? (i := 1452) (by decide +kernel)) rfl
theorem ws_79 : Cond.selects RX9 yX9_ruleOf yX9_ruleOf ∈ hw_tbl := hw_sub (List.mem_of_getElem? (i := 79) (by decide +kernel)) rfl
theorem wd_1340 : Cond.code yX9_toldBy cX9_toldBy 3 (some .int) ∈ hw_tbl := hw_sub (List.mem_of_getElem? (i := 1457) (by decide +kernel)) rfl
theorem wd_1339 : Cond.instanceMethod yX9_toldBy ∈ hw_tbl := hw_sub (List.mem_of_getElem? (i := 1456) (by decide +kernel)) rfl
theorem ws_80 : Cond.selects RX9 yX9_toldBy yX9_toldBy ∈ hw_tbl := hw_sub (List.mem_of_getElem? (i := 80) (by decide +kernel)) rfl
theorem wd_1333 : Cond.methodLink RX9 189 yX9_ruleOf ∈ hw_tbl := hw_sub (List.mem_of_getElem? (i := 1450) (by decide +kernel)) rfl
theorem wd_1337 : Cond.methodLink RX9 192 yX9_toldBy ∈ hw_tbl := hw_sub (List.mem_of_getElem? (i := 1454) (by decide +kernel)) rfl
theorem wd_1341 : Cond.methodLink RX9 196 yX9_sets ∈ hw_tbl := hw_sub (List.mem_of_getElem? (i := 1458) (by decide +kernel)) rfl
theorem wd_1348 : Cond.methodLink RX9 200 yX9_bit ∈ hw_tbl := hw_sub (List.mem_of_getElem? (i := 1465) (by decide +kernel)) rfl
theorem wd_1332 : Cond.code yX9_settles cX9_settles 3 none ∈ hw_tbl := hw_sub (List.mem_of_getElem? (i := 1449) (by decide +kernel)) rfl
theorem wd_1331 : Cond.instanceMethod yX9_settles ∈ hw_tbl := hw_sub (List.mem_of_getElem? (i := 1448) (by decide +kernel)) rfl
theorem ws_78 : Cond.selects RX9 yX9_settles yX9_settles ∈ hw_tbl := hw_sub (List.mem_of_getElem? (i := 78) (by decide +kernel)) rfl
theorem wd_1379 : Cond.code yX9_follows cX9_follows 5 none ∈ hw_tbl := hw_sub (List.mem_of_getElem? (i := 1496) (by decide +kernel)) rfl
theorem wd_1378 : Cond.instanceMethod yX9_follows ∈ hw_tbl := hw_sub (List.mem_of_getElem? (i := 1495) (by decide +kernel)) rfl
theorem ws_89 : Cond.selects RX9 yX9_follows yX9_follows ∈ hw_tbl := hw_sub (List.mem_of_getElem? (i := 89) (by decide +kernel)) rfl
theorem wd_1376 : Cond.methodLink RX9 203 yX9_follows ∈ hw_tbl := hw_sub (List.mem_of_getElem? (i := 1493) (by decide +kernel)) rfl
theorem wd_1329 : Cond.methodLink RX9 207 yX9_settles ∈ hw_tbl := hw_sub (List.mem_of_getElem? (i := 1446) (by decide +kernel)) rfl
theorem wd_1387 : Cond.code yX9_writes cX9_writes 5 none ∈ hw_tbl := hw_sub (List.mem_of_getElem? (i := 1504) (by decide +kernel)) rfl
theorem wd_1386 : Cond.instanceMethod yX9_writes ∈ hw_tbl := hw_sub (List.mem_of_getElem? (i := 1503) (by decide +kernel)) rfl
theorem ws_91 : Cond.selects RX9 yX9_writes yX9_writes ∈ hw_tbl := hw_sub (List.mem_of_getElem? (i := 91) (by decide +kernel)) rfl
theorem wd_1375 : Cond.code yX9_reads cX9_reads 5 (some .int) ∈ hw_tbl := hw_sub (List.mem_of_getElem? (i := 1492) (by decide +kernel)) rfl
theorem wd_1374 : Cond.instanceMethod yX9_reads ∈ hw_tbl := hw_sub (List.mem_of_getElem? (i := 1491) (by decide +kernel)) rfl
theorem ws_88 : Cond.selects RX9 yX9_reads yX9_reads ∈ hw_tbl := hw_sub (List.mem_of_getElem? (i := 88) (by decide +kernel)) rfl
theorem wd_1371 : Cond.code yX9_letterIn cX9_letterIn 1 (some .int) ∈ hw_tbl := hw_sub (List.mem_of_getElem? (i := 1488) (by decide +kernel)) rfl
theorem wd_1370 : Cond.instanceMethod yX9_letterIn ∈ hw_tbl := hw_sub (List.mem_of_getElem? (i := 1487) (by decide +kernel)) rfl
theorem ws_87 : Cond.selects RX9 yX9_letterIn yX9_letterIn ∈ hw_tbl := hw_sub (List.mem_of_getElem? (i := 87) (by decide +kernel)) rfl
theorem wd_1368 : Cond.methodLink RX9 210 yX9_letterIn ∈ hw_tbl := hw_sub (List.mem_of_getElem? (i := 1485) (by decide +kernel)) rfl
theorem wd_1384 : Cond.methodLink RX9 213 yX9_writes ∈ hw_tbl := hw_sub (List.mem_of_getElem? (i := 1501) (by decide +kernel)) rfl
theorem wd_1383 : Cond.code yX9_writesAt cX9_writesAt 5 none ∈ hw_tbl := hw_sub (List.mem_of_getElem? (i := 1500) (by decide +kernel)) rfl
theorem wd_1382 : Cond.instanceMethod yX9_writesAt ∈ hw_tbl := hw_sub (List.mem_of_getElem? (i := 1499) (by decide +kernel)) rfl
theorem ws_90 : Cond.selects RX9 yX9_writesAt yX9_writesAt ∈ hw_tbl := hw_sub (List.mem_of_getElem? (i := 90) (by decide +kernel)) rfl
theorem wd_1372 : Cond.methodLink RX9 216 yX9_reads ∈ hw_tbl := hw_sub (List.mem_of_getElem? (i := 1489) (by decide +kernel)) rfl
theorem wd_1367 : Cond.code yX9_readsAt cX9_readsAt 6 (some .int) ∈ hw_tbl := hw_sub (List.mem_of_getElem? (i := 1484) (by decide +kernel)) rfl
theorem wd_1366 : Cond.instanceMethod yX9_readsAt ∈ hw_tbl := hw_sub (List.mem_of_getElem? (i := 1483) (by decide +kernel)) rfl
theorem ws_86 : Cond.selects RX9 yX9_readsAt yX9_readsAt ∈ hw_tbl := hw_sub (List.mem_of_getElem? (i := 86) (by decide +kernel)) rfl
theorem wd_1364 : Cond.methodLink RX9 219 yX9_readsAt ∈ hw_tbl := hw_sub (List.mem_of_getElem? (i := 1481) (by decide +kernel)) rfl
theorem wd_1072 : Cond.fieldLink RX9 225 RX9 "readMany" "I" ∈ hw_tbl := hw_sub (List.mem_of_getElem? (i := 1189) (by decide +kernel)) rfl
theorem wd_1070 : Cond.fieldLink RX9 222 RX9 "failedMany" "I" ∈ hw_tbl := hw_sub (List.mem_of_getElem? (i := 1187) (by decide +kernel)) rfl
theorem wd_1363 : Cond.code yX9_readsFor cX9_readsFor 3 none ∈ hw_tbl := hw_sub (List.mem_of_getElem? (i := 1480) (by decide +kernel)) rfl
theorem wd_1362 : Cond.instanceMethod yX9_readsFor ∈ hw_tbl := hw_sub (List.mem_of_getElem? (i := 1479) (by decide +kernel)) rfl
theorem ws_85 : Cond.selects RX9 yX9_readsFor yX9_readsFor ∈ hw_tbl := hw_sub (List.mem_of_getElem? (i := 85) (by decide +kernel)) rfl
theorem wd_1380 : Cond.methodLink RX9 231 yX9_writesAt ∈ hw_tbl := hw_sub (List.mem_of_getElem? (i := 1497) (by decide +kernel)) rfl
theorem wd_1360 : Cond.methodLink RX9 228 yX9_readsFor ∈ hw_tbl := hw_sub (List.mem_of_getElem? (i := 1477) (by decide +kernel)) rfl
theorem wd_1359 : Cond.code yX9_opAt cX9_opAt 3 none ∈ hw_tbl := hw_sub (List.mem_of_getElem? (i := 1476) (by decide +kernel)) rfl
theorem wd_1358 : Cond.instanceMethod yX9_opAt ∈ hw_tbl := hw_sub (List.mem_of_getElem? (i := 1475) (by decide +kernel)) rfl
theorem ws_84 : Cond.selects RX9 yX9_opAt yX9_opAt ∈ hw_tbl := hw_sub (List.mem_of_getElem? (i := 84) (by decide +kernel)) rfl
theorem wd_1356 : Cond.methodLink RX9 234 yX9_opAt ∈ hw_tbl := hw_sub (List.mem_of_getElem? (i := 1473) (by decide +kernel)) rfl
theorem wd_1355 : Cond.code yX9_goesThrough cX9_goesThrough 8 none ∈ hw_tbl := hw_sub (List.mem_of_getElem? (i := 1472) (by decide +kernel)) rfl
theorem wd_1354 : Cond.instanceMethod yX9_goesThrough ∈ hw_tbl := hw_sub (List.mem_of_getElem? (i := 1471) (by decide +kernel)) rfl
theorem ws_83 : Cond.selects RX9 yX9_goesThrough yX9_goesThrough ∈ hw_tbl := hw_sub (List.mem_of_getElem? (i := 83) (by decide +kernel)) rfl
theorem wd_1312 : Cond.code yX9_keepsAside cX9_keepsAside 2 none ∈ hw_tbl := hw_sub (List.mem_of_getElem? (i := 1429) (by decide +kernel)) rfl
theorem wd_1311 : Cond.instanceMethod yX9_keepsAside ∈ hw_tbl := hw_sub (List.mem_of_getElem? (i := 1428) (by decide +kernel)) rfl
theorem ws_73 : Cond.selects RX9 yX9_keepsAside yX9_keepsAside ∈ hw_tbl := hw_sub (List.mem_of_getElem? (i := 73) (by decide +kernel)) rfl
theorem wd_1391 : Cond.code yX9_laysBack cX9_laysBack 2 none ∈ hw_tbl := hw_sub (List.mem_of_getElem? (i := 1508) (by decide +kernel)) rfl
theorem wd_1390 : Cond.instanceMethod yX9_laysBack ∈ hw_tbl := hw_sub (List.mem_of_getElem? (i := 1507) (by decide +kernel)) rfl
theorem ws_92 : Cond.selects RX9 yX9_laysBack yX9_laysBack ∈ hw_tbl := hw_sub (List.mem_of_getElem? (i := 92) (by decide +kernel)) rfl
theorem wd_1328 : Cond.code yX9_tries cX9_tries 5 none ∈ hw_tbl := hw_sub (List.mem_of_getElem? (i := 1445) (by decide +kernel)) rfl
theorem wd_1327 : Cond.instanceMethod yX9_tries ∈ hw_tbl := hw_sub (List.mem_of_getElem? (i := 1444) (by decide +kernel)) rfl
theorem ws_77 : Cond.selects RX9 yX9_tries yX9_tries ∈ hw_tbl := hw_sub (List.mem_of_getElem? (i := 77) (by decide +kernel)) rfl
theorem wd_1275 : Cond.methodLink RX9 237 yX9_isPair ∈ hw_tbl := hw_sub (List.mem_of_getElem? (i := 1392) (by decide +kernel)) rfl
theorem wd_1282 : Cond.code yX9_placements cX9_placements 2 (some .int) ∈ hw_tbl := hw_sub (List.mem_of_getElem? (i := 1399) (by decide +kernel)) rfl
theorem wd_1281 : Cond.instanceMethod yX9_placements ∈ hw_tbl := hw_sub (List.mem_of_getElem? (i := 1398) (by decide +kernel)) rfl
theorem ws_69 : Cond.selects RX9 yX9_placements yX9_placements ∈ hw_tbl := hw_sub (List.mem_of_getElem? (i := 69) (by decide +kernel)) rfl
theorem wd_1073 : Cond.fieldLink RX9 240 RX9 "placeA" "I" ∈ hw_tbl := hw_sub (List.mem_of_getElem? (i := 1190) (by decide +kernel)) rfl
theorem wd_1074 : Cond.fieldLink RX9 243 RX9 "placeV" "I" ∈ hw_tbl := hw_sub (List.mem_of_getElem? (i := 1191) (by decide +kernel)) rfl
theorem wd_1316 : Cond.code yX9_laysPlace cX9_laysPlace 3 none ∈ hw_tbl := hw_sub (List.mem_of_getElem? (i := 1433) (by decide +kernel)) rfl
theorem wd_1315 : Cond.instanceMethod yX9_laysPlace ∈ hw_tbl := hw_sub (List.mem_of_getElem? (i := 1432) (by decide +kernel)) rfl
theorem ws_74 : Cond.selects RX9 yX9_laysPlace yX9_laysPlace ∈ hw_tbl := hw_sub (List.mem_of_getElem? (i := 74) (by decide +kernel)) rfl
theorem wd_1320 : Cond.code yX9_isNear cX9_isNear 1 (some .boolean) ∈ hw_tbl := hw_sub (List.mem_of_getElem? (i := 1437) (by decide +kernel)) rfl
theorem wd_1319 : Cond.instanceMethod yX9_isNear ∈ hw_tbl := hw_sub (List.mem_of_getElem? (i := 1436) (by decide +kernel)) rfl
theorem ws_75 : Cond.selects RX9 yX9_isNear yX9_isNear ∈ hw_tbl := hw_sub (List.mem_of_getElem? (i := 75) (by decide +kernel)) rfl
theorem wd_1296 : Cond.methodLink RX9 246 yX9_anys ∈ hw_tbl := hw_sub (List.mem_of_getElem? (i := 1413) (by decide +kernel)) rfl
theorem wd_1325 : Cond.methodLink RX9 249 yX9_tries ∈ hw_tbl := hw_sub (List.mem_of_getElem? (i := 1442) (by decide +kernel)) rfl
theorem wd_1352 : Cond.methodLink RX9 252 yX9_goesThrough ∈ hw_tbl := hw_sub (List.mem_of_getElem? (i := 1469) (by decide +kernel)) rfl
theorem wd_1324 : Cond.code yX9_escapeOf cX9_escapeOf 5 (some .int) ∈ hw_tbl := hw_sub (List.mem_of_getElem? (i := 1441) (by decide +kernel)) rfl
theorem wd_1323 : Cond.instanceMethod yX9_escapeOf ∈ hw_tbl := hw_sub (List.mem_of_getElem? (i := 1440) (by decide +kernel)) rfl
theorem ws_76 : Cond.selects RX9 yX9_escapeOf yX9_escapeOf ∈ hw_tbl := hw_sub (List.mem_of_getElem? (i := 76) (by decide +kernel)) rfl
theorem wd_1270 : Cond.methodLink RX9 255 yX9_isKind ∈ hw_tbl := hw_sub (List.mem_of_getElem? (i := 1387) (by decide +kernel)) rfl
theorem wd_1274 : Cond.constantLong RX9 258 (3) ∈ hw_tbl := hw_sub (List.mem_of_getElem? (i := 1391) (by decide +kernel)) rfl
theorem wd_1279 : Cond.methodLink RX9 260 yX9_placements ∈ hw_tbl := hw_sub (List.mem_of_getElem? (i := 1396) (by decide +kernel)) rfl
theorem wd_1269 : Cond.code yX9_ofKind cX9_ofKind 3 (some .int) ∈ hw_tbl := hw_sub (List.mem_of_getElem? (i := 1386) (by decide +kernel)) rfl
theorem wd_1267 : Cond.instanceMethod yX9_ofKind ∈ hw_tbl := hw_sub (List.mem_of_getElem? (i := 1384) (by decide +kernel)) rfl
theorem wd_1268 : Cond.selects RX9 yX9_ofKind yX9_ofKind ∈ hw_tbl := hw_sub (List.mem_of_getElem? (i := 1385) (by decide +kernel)) rfl
theorem wd_1287 : Cond.methodLink RX9 263 yX9_isMarch ∈ hw_tbl := hw_sub (List.mem_of_getElem? (i := 1404) (by decide +kernel)) rfl
theorem wd_1291 : Cond.constantLong RX9 266 (4) ∈ hw_tbl := hw_sub (List.mem_of_getElem? (i := 1408) (by decide +kernel)) rfl
theorem wd_1286 : Cond.code yX9_ofMarch cX9_ofMarch 7 (some .int) ∈ hw_tbl := hw_sub (List.mem_of_getElem? (i := 1403) (by decide +kernel)) rfl
theorem wd_1284 : Cond.instanceMethod yX9_ofMarch ∈ hw_tbl := hw_sub (List.mem_of_getElem? (i := 1401) (by decide +kernel)) rfl
theorem wd_1285 : Cond.selects RX9 yX9_ofMarch yX9_ofMarch ∈ hw_tbl := hw_sub (List.mem_of_getElem? (i := 1402) (by decide +kernel)) rfl
theorem wd_1304 : Cond.constantLong RX9 268 (7) ∈ hw_tbl := hw_sub (List.mem_of_getElem? (i := 1421) (by decide +kernel)) rfl
theorem wd_1303 : Cond.code yX9_element cX9_element 4 (some .int) ∈ hw_tbl := hw_sub (List.mem_of_getElem? (i := 1420) (by decide +kernel)) rfl
theorem wd_1301 : Cond.instanceMethod yX9_element ∈ hw_tbl := hw_sub (List.mem_of_getElem? (i := 1418) (by decide +kernel)) rfl
theorem wd_1302 : Cond.selects RX9 yX9_element yX9_element ∈ hw_tbl := hw_sub (List.mem_of_getElem? (i := 1419) (by decide +kernel)) rfl
theorem wd_1309 : Cond.methodLink RX9 270 yX9_keepsAside ∈ hw_tbl := hw_sub (List.mem_of_getElem? (i := 1426) (by decide +kernel)) rfl
theorem wd_1388 : Cond.methodLink RX9 282 yX9_laysBack ∈ hw_tbl := hw_sub (List.mem_of_getElem? (i := 1505) (by decide +kernel)) rfl
theorem wd_1313 : Cond.methodLink RX9 273 yX9_laysPlace ∈ hw_tbl := hw_sub (List.mem_of_getElem? (i := 1430) (by decide +kernel)) rfl
theorem wd_1317 : Cond.methodLink RX9 276 yX9_isNear ∈ hw_tbl := hw_sub (List.mem_of_getElem? (i := 1434) (by decide +kernel)) rfl
theorem wd_1321 : Cond.methodLink RX9 279 yX9_escapeOf ∈ hw_tbl := hw_sub (List.mem_of_getElem? (i := 1438) (by decide +kernel)) rfl
theorem wd_1308 : Cond.code yX9_caught cX9_caught 6 (some .int) ∈ hw_tbl := hw_sub (List.mem_of_getElem? (i := 1425) (by decide +kernel)) rfl
theorem wd_1306 : Cond.instanceMethod yX9_caught ∈ hw_tbl := hw_sub (List.mem_of_getElem? (i := 1423) (by decide +kernel)) rfl
theorem wd_1307 : Cond.selects RX9 yX9_caught yX9_caught ∈ hw_tbl := hw_sub (List.mem_of_getElem? (i := 1424) (by decide +kernel)) rfl
theorem wd_1395 : Cond.code yX9_escape cX9_escape 7 (some .int) ∈ hw_tbl := hw_sub (List.mem_of_getElem? (i := 1512) (by decide +kernel)) rfl
theorem wd_1393 : Cond.instanceMethod yX9_escape ∈ hw_tbl := hw_sub (List.mem_of_getElem? (i := 1510) (by decide +kernel)) rfl
theorem wd_1394 : Cond.selects RX9 yX9_escape yX9_escape ∈ hw_tbl := hw_sub (List.mem_of_getElem? (i := 1511) (by decide +kernel)) rfl
theorem wd_1403 : Cond.code yX9_beginsTwo cX9_beginsTwo 3 (some .int) ∈ hw_tbl := hw_sub (List.mem_of_getElem? (i := 1520) (by decide +kernel)) rfl
theorem wd_1402 : Cond.instanceMethod yX9_beginsTwo ∈ hw_tbl := hw_sub (List.mem_of_getElem? (i := 1519) (by decide +kernel)) rfl
theorem ws_93 : Cond.selects RX9 yX9_beginsTwo yX9_beginsTwo ∈ hw_tbl := hw_sub (List.mem_of_getElem? (i := 93) (by decide +kernel)) rfl
theorem wd_1400 : Cond.methodLink RX9 285 yX9_beginsTwo ∈ hw_tbl := hw_sub (List.mem_of_getElem? (i := 1517) (by decide +kernel)) rfl
theorem wd_1399 : Cond.code yX9_onTwo cX9_onTwo 6 (some .int) ∈ hw_tbl := hw_sub (List.mem_of_getElem? (i := 1516) (by decide +kernel)) rfl
theorem wd_1397 : Cond.instanceMethod yX9_onTwo ∈ hw_tbl := hw_sub (List.mem_of_getElem? (i := 1514) (by decide +kernel)) rfl
theorem wd_1398 : Cond.selects RX9 yX9_onTwo yX9_onTwo ∈ hw_tbl := hw_sub (List.mem_of_getElem? (i := 1515) (by decide +kernel)) rfl
theorem wd_1408 : Cond.methodLink RX9 288 yX9_caught ∈ hw_tbl := hw_sub (List.mem_of_getElem? (i := 1525) (by decide +kernel)) rfl
theorem wd_1407 : Cond.code yX9_covers cX9_covers 4 (some .int) ∈ hw_tbl := hw_sub (List.mem_of_getElem? (i := 1524) (by decide +kernel)) rfl
theorem wd_1405 : Cond.instanceMethod yX9_covers ∈ hw_tbl := hw_sub (List.mem_of_getElem? (i := 1522) (by decide +kernel)) rfl
theorem wd_1406 : Cond.selects RX9 yX9_covers yX9_covers ∈ hw_tbl := hw_sub (List.mem_of_getElem? (i := 1523) (by decide +kernel)) rfl
theorem wd_1455 : Cond.code yX9_partOf cX9_partOf 3 (some .int) ∈ hw_tbl := hw_sub (List.mem_of_getElem? (i := 1572) (by decide +kernel)) rfl
theorem wd_1454 : Cond.instanceMethod yX9_partOf ∈ hw_tbl := hw_sub (List.mem_of_getElem? (i := 1571) (by decide +kernel)) rfl
theorem ws_102 : Cond.selects RX9 yX9_partOf yX9_partOf ∈ hw_tbl := hw_sub (List.mem_of_getElem? (i := 102) (by decide +kernel)) rfl
theorem wd_1436 : Cond.code yX9_builds cX9_builds 5 none ∈ hw_tbl := hw_sub (List.mem_of_getElem? (i := 1553) (by decide +kernel)) rfl
theorem wd_1435 : Cond.instanceMethod yX9_builds ∈ hw_tbl := hw_sub (List.mem_of_getElem? (i := 1552) (by decide +kernel)) rfl
theorem ws_98 : Cond.selects RX9 yX9_builds yX9_builds ∈ hw_tbl := hw_sub (List.mem_of_getElem? (i := 98) (by decide +kernel)) rfl
theorem wd_1079 : Cond.fieldLink RX9 292 RX9 "stateMany" "I" ∈ hw_tbl := hw_sub (List.mem_of_getElem? (i := 1196) (by decide +kernel)) rfl
theorem wd_1471 : Cond.code yX9_stateBuilt cX9_stateBuilt 2 (some .int) ∈ hw_tbl := hw_sub (List.mem_of_getElem? (i := 1588) (by decide +kernel)) rfl
theorem wd_1470 : Cond.instanceMethod yX9_stateBuilt ∈ hw_tbl := hw_sub (List.mem_of_getElem? (i := 1587) (by decide +kernel)) rfl
theorem ws_106 : Cond.selects RX9 yX9_stateBuilt yX9_stateBuilt ∈ hw_tbl := hw_sub (List.mem_of_getElem? (i := 106) (by decide +kernel)) rfl
theorem wd_1444 : Cond.code yX9_comes cX9_comes 5 none ∈ hw_tbl := hw_sub (List.mem_of_getElem? (i := 1561) (by decide +kernel)) rfl
theorem wd_1443 : Cond.instanceMethod yX9_comes ∈ hw_tbl := hw_sub (List.mem_of_getElem? (i := 1560) (by decide +kernel)) rfl
theorem ws_100 : Cond.selects RX9 yX9_comes yX9_comes ∈ hw_tbl := hw_sub (List.mem_of_getElem? (i := 100) (by decide +kernel)) rfl
theorem wd_1080 : Cond.fieldLink RX9 295 RX9 "machines" "I" ∈ hw_tbl := hw_sub (List.mem_of_getElem? (i := 1197) (by decide +kernel)) rfl
theorem wd_1475 : Cond.code yX9_isAllFailed cX9_isAllFailed 2 (some .boolean) ∈ hw_tbl := hw_sub (List.mem_of_getElem? (i := 1592) (by decide +kernel)) rfl
theorem wd_1474 : Cond.instanceMethod yX9_isAllFailed ∈ hw_tbl := hw_sub (List.mem_of_getElem? (i := 1591) (by decide +kernel)) rfl
theorem ws_107 : Cond.selects RX9 yX9_isAllFailed yX9_isAllFailed ∈ hw_tbl := hw_sub (List.mem_of_getElem? (i := 107) (by decide +kernel)) rfl
theorem wd_1440 : Cond.code yX9_triesMachine cX9_triesMachine 4 none ∈ hw_tbl := hw_sub (List.mem_of_getElem? (i := 1557) (by decide +kernel)) rfl
theorem wd_1439 : Cond.instanceMethod yX9_triesMachine ∈ hw_tbl := hw_sub (List.mem_of_getElem? (i := 1556) (by decide +kernel)) rfl
theorem ws_99 : Cond.selects RX9 yX9_triesMachine yX9_triesMachine ∈ hw_tbl := hw_sub (List.mem_of_getElem? (i := 99) (by decide +kernel)) rfl
theorem wd_1432 : Cond.constantLong RX9 301 (2) ∈ hw_tbl := hw_sub (List.mem_of_getElem? (i := 1549) (by decide +kernel)) rfl
theorem wd_1433 : Cond.methodLink RX9 303 yX9_builds ∈ hw_tbl := hw_sub (List.mem_of_getElem? (i := 1550) (by decide +kernel)) rfl
theorem wd_1429 : Cond.methodLink RX9 298 yX9_has ∈ hw_tbl := hw_sub (List.mem_of_getElem? (i := 1546) (by decide +kernel)) rfl
theorem wd_1441 : Cond.methodLink RX9 310 yX9_comes ∈ hw_tbl := hw_sub (List.mem_of_getElem? (i := 1558) (by decide +kernel)) rfl
theorem wd_1437 : Cond.methodLink RX9 307 yX9_triesMachine ∈ hw_tbl := hw_sub (List.mem_of_getElem? (i := 1554) (by decide +kernel)) rfl
theorem wd_1428 : Cond.code yX9_laysMachines cX9_laysMachines 5 none ∈ hw_tbl := hw_sub (List.mem_of_getElem? (i := 1545) (by decide +kernel)) rfl
theorem wd_1427 : Cond.instanceMethod yX9_laysMachines ∈ hw_tbl := hw_sub (List.mem_of_getElem? (i := 1544) (by decide +kernel)) rfl
theorem ws_97 : Cond.selects RX9 yX9_laysMachines yX9_laysMachines ∈ hw_tbl := hw_sub (List.mem_of_getElem? (i := 97) (by decide +kernel)) rfl
theorem wd_1463 : Cond.code yX9_stepOp cX9_stepOp 6 (some .int) ∈ hw_tbl := hw_sub (List.mem_of_getElem? (i := 1580) (by decide +kernel)) rfl
theorem wd_1462 : Cond.instanceMethod yX9_stepOp ∈ hw_tbl := hw_sub (List.mem_of_getElem? (i := 1579) (by decide +kernel)) rfl
theorem ws_104 : Cond.selects RX9 yX9_stepOp yX9_stepOp ∈ hw_tbl := hw_sub (List.mem_of_getElem? (i := 104) (by decide +kernel)) rfl
theorem wd_1460 : Cond.methodLink RX9 313 yX9_stepOp ∈ hw_tbl := hw_sub (List.mem_of_getElem? (i := 1577) (by decide +kernel)) rfl
theorem wd_1459 : Cond.code yX9_soundBehind cX9_soundBehind 7 (some .int) ∈ hw_tbl := hw_sub (List.mem_of_getElem? (i := 1576) (by decide +kernel)) rfl
theorem wd_1458 : Cond.instanceMethod yX9_soundBehind ∈ hw_tbl := hw_sub (List.mem_of_getElem? (i := 1575) (by decide +kernel)) rfl
theorem ws_103 : Cond.selects RX9 yX9_soundBehind yX9_soundBehind ∈ hw_tbl := hw_sub (List.mem_of_getElem? (i := 103) (by decide +kernel)) rfl
theorem wd_1452 : Cond.methodLink RX9 316 yX9_partOf ∈ hw_tbl := hw_sub (List.mem_of_getElem? (i := 1569) (by decide +kernel)) rfl
theorem wd_1467 : Cond.code yX9_machineBehind cX9_machineBehind 11 (some .int) ∈ hw_tbl := hw_sub (List.mem_of_getElem? (i := 1584) (by decide +kernel)) rfl
theorem wd_1466 : Cond.instanceMethod yX9_machineBehind ∈ hw_tbl := hw_sub (List.mem_of_getElem? (i := 1583) (by decide +kernel)) rfl
theorem ws_105 : Cond.selects RX9 yX9_machineBehind yX9_machineBehind ∈ hw_tbl := hw_sub (List.mem_of_getElem? (i := 105) (by decide +kernel)) rfl
theorem wd_1451 : Cond.code yX9_pow cX9_pow 1 (some .int) ∈ hw_tbl := hw_sub (List.mem_of_getElem? (i := 1568) (by decide +kernel)) rfl
theorem wd_1450 : Cond.static yX9_pow ∈ hw_tbl := hw_sub (List.mem_of_getElem? (i := 1567) (by decide +kernel)) rfl
theorem wd_1449 : Cond.methodLink RX9 319 yX9_pow ∈ hw_tbl := hw_sub (List.mem_of_getElem? (i := 1566) (by decide +kernel)) rfl
theorem wd_1456 : Cond.methodLink RX9 322 yX9_soundBehind ∈ hw_tbl := hw_sub (List.mem_of_getElem? (i := 1573) (by decide +kernel)) rfl
theorem wd_1468 : Cond.methodLink RX9 329 yX9_stateBuilt ∈ hw_tbl := hw_sub (List.mem_of_getElem? (i := 1585) (by decide +kernel)) rfl
theorem wd_1472 : Cond.methodLink RX9 332 yX9_isAllFailed ∈ hw_tbl := hw_sub (List.mem_of_getElem? (i := 1589) (by decide +kernel)) rfl
theorem wd_1464 : Cond.methodLink RX9 325 yX9_machineBehind ∈ hw_tbl := hw_sub (List.mem_of_getElem? (i := 1581) (by decide +kernel)) rfl
theorem wd_1448 : Cond.code yX9_stepsFrom cX9_stepsFrom 9 (some .int) ∈ hw_tbl := hw_sub (List.mem_of_getElem? (i := 1565) (by decide +kernel)) rfl
theorem wd_1447 : Cond.instanceMethod yX9_stepsFrom ∈ hw_tbl := hw_sub (List.mem_of_getElem? (i := 1564) (by decide +kernel)) rfl
theorem ws_101 : Cond.selects RX9 yX9_stepsFrom yX9_stepsFrom ∈ hw_tbl := hw_sub (List.mem_of_getElem? (i := 101) (by decide +kernel)) rfl
theorem wd_1425 : Cond.methodLink RX9 335 yX9_laysMachines ∈ hw_tbl := hw_sub (List.mem_of_getElem? (i := 1542) (by decide +kernel)) rfl
theorem wd_1445 : Cond.methodLink RX9 338 yX9_stepsFrom ∈ hw_tbl := hw_sub (List.mem_of_getElem? (i := 1562) (by decide +kernel)) rfl
theorem wd_1424 : Cond.code yX9_searches cX9_searches 6 (some .int) ∈ hw_tbl := hw_sub (List.mem_of_getElem? (i := 1541) (by decide +kernel)) rfl
theorem wd_1423 : Cond.instanceMethod yX9_searches ∈ hw_tbl := hw_sub (List.mem_of_getElem? (i := 1540) (by decide +kernel)) rfl
theorem ws_96 : Cond.selects RX9 yX9_searches yX9_searches ∈ hw_tbl := hw_sub (List.mem_of_getElem? (i := 96) (by decide +kernel)) rfl
theorem wd_1416 : Cond.code yX9_areKinds cX9_areKinds 2 (some .boolean) ∈ hw_tbl := hw_sub (List.mem_of_getElem? (i := 1533) (by decide +kernel)) rfl
theorem wd_1415 : Cond.instanceMethod yX9_areKinds ∈ hw_tbl := hw_sub (List.mem_of_getElem? (i := 1532) (by decide +kernel)) rfl
theorem ws_94 : Cond.selects RX9 yX9_areKinds yX9_areKinds ∈ hw_tbl := hw_sub (List.mem_of_getElem? (i := 94) (by decide +kernel)) rfl
theorem wd_1421 : Cond.methodLink RX9 341 yX9_searches ∈ hw_tbl := hw_sub (List.mem_of_getElem? (i := 1538) (by decide +kernel)) rfl
theorem wd_1420 : Cond.code yX9_leastOf cX9_leastOf 4 (some .int) ∈ hw_tbl := hw_sub (List.mem_of_getElem? (i := 1537) (by decide +kernel)) rfl
theorem wd_1419 : Cond.instanceMethod yX9_leastOf ∈ hw_tbl := hw_sub (List.mem_of_getElem? (i := 1536) (by decide +kernel)) rfl
theorem ws_95 : Cond.selects RX9 yX9_leastOf yX9_leastOf ∈ hw_tbl := hw_sub (List.mem_of_getElem? (i := 95) (by decide +kernel)) rfl
theorem wd_1413 : Cond.methodLink RX9 344 yX9_areKinds ∈ hw_tbl := hw_sub (List.mem_of_getElem? (i := 1530) (by decide +kernel)) rfl
theorem wd_1417 : Cond.methodLink RX9 347 yX9_leastOf ∈ hw_tbl := hw_sub (List.mem_of_getElem? (i := 1534) (by decide +kernel)) rfl
theorem wd_1412 : Cond.code yX9_least cX9_least 2 (some .int) ∈ hw_tbl := hw_sub (List.mem_of_getElem? (i := 1529) (by decide +kernel)) rfl
theorem wd_1410 : Cond.instanceMethod yX9_least ∈ hw_tbl := hw_sub (List.mem_of_getElem? (i := 1527) (by decide +kernel)) rfl
theorem wd_1411 : Cond.selects RX9 yX9_least yX9_least ∈ hw_tbl := hw_sub (List.mem_of_getElem? (i := 1528) (by decide +kernel)) rfl
theorem wd_1483 : Cond.code yX9_walkedOp cX9_walkedOp 8 (some .int) ∈ hw_tbl := hw_sub (List.mem_of_getElem? (i := 1600) (by decide +kernel)) rfl
theorem wd_1482 : Cond.instanceMethod yX9_walkedOp ∈ hw_tbl := hw_sub (List.mem_of_getElem? (i := 1599) (by decide +kernel)) rfl
theorem ws_108 : Cond.selects RX9 yX9_walkedOp yX9_walkedOp ∈ hw_tbl := hw_sub (List.mem_of_getElem? (i := 108) (by decide +kernel)) rfl
theorem wd_1480 : Cond.methodLink RX9 350 yX9_walkedOp ∈ hw_tbl := hw_sub (List.mem_of_getElem? (i := 1597) (by decide +kernel)) rfl
theorem wd_1479 : Cond.code yX9_walk cX9_walk 8 (some .int) ∈ hw_tbl := hw_sub (List.mem_of_getElem? (i := 1596) (by decide +kernel)) rfl
theorem wd_1477 : Cond.instanceMethod yX9_walk ∈ hw_tbl := hw_sub (List.mem_of_getElem? (i := 1594) (by decide +kernel)) rfl
theorem wd_1478 : Cond.selects RX9 yX9_walk yX9_walk ∈ hw_tbl := hw_sub (List.mem_of_getElem? (i := 1595) (by decide +kernel)) rfl
theorem wd_1488 : Cond.constantLong RX9 353 (6) ∈ hw_tbl := hw_sub (List.mem_of_getElem? (i := 1605) (by decide +kernel)) rfl
theorem wd_1487 : Cond.code yX9_memory cX9_memory 2 (some .boolean) ∈ hw_tbl := hw_sub (List.mem_of_getElem? (i := 1604) (by decide +kernel)) rfl
theorem wd_1485 : Cond.instanceMethod yX9_memory ∈ hw_tbl := hw_sub (List.mem_of_getElem? (i := 1602) (by decide +kernel)) rfl
theorem wd_1486 : Cond.selects RX9 yX9_memory yX9_memory ∈ hw_tbl := hw_sub (List.mem_of_getElem? (i := 1603) (by decide +kernel)) rfl
theorem wd_1504 : Cond.code yX9_keepsAct cX9_keepsAct 2 none ∈ hw_tbl := hw_sub (List.mem_of_getElem? (i := 1621) (by decide +kernel)) rfl
theorem wd_1503 : Cond.instanceMethod yX9_keepsAct ∈ hw_tbl := hw_sub (List.mem_of_getElem? (i := 1620) (by decide +kernel)) rfl
theorem ws_110 : Cond.selects RX9 yX9_keepsAct yX9_keepsAct ∈ hw_tbl := hw_sub (List.mem_of_getElem? (i := 110) (by decide +kernel)) rfl
theorem wd_1492 : Cond.code yX9_undo cX9_undo 2 (some .int) ∈ hw_tbl := hw_sub (List.mem_of_getElem? (i := 1609) (by decide +kernel)) rfl
theorem wd_1490 : Cond.instanceMethod yX9_undo ∈ hw_tbl := hw_sub (List.mem_of_getElem? (i := 1607) (by decide +kernel)) rfl
theorem wd_1491 : Cond.selects RX9 yX9_undo yX9_undo ∈ hw_tbl := hw_sub (List.mem_of_getElem? (i := 1608) (by decide +kernel)) rfl
theorem wd_1500 : Cond.code yX9_isCell cX9_isCell 2 (some .boolean) ∈ hw_tbl := hw_sub (List.mem_of_getElem? (i := 1617) (by decide +kernel)) rfl
theorem wd_1499 : Cond.instanceMethod yX9_isCell ∈ hw_tbl := hw_sub (List.mem_of_getElem? (i := 1616) (by decide +kernel)) rfl
theorem ws_109 : Cond.selects RX9 yX9_isCell yX9_isCell ∈ hw_tbl := hw_sub (List.mem_of_getElem? (i := 109) (by decide +kernel)) rfl
theorem wd_1497 : Cond.methodLink RX9 355 yX9_isCell ∈ hw_tbl := hw_sub (List.mem_of_getElem? (i := 1614) (by decide +kernel)) rfl
theorem wd_1501 : Cond.methodLink RX9 358 yX9_keepsAct ∈ hw_tbl := hw_sub (List.mem_of_getElem? (i := 1618) (by decide +kernel)) rfl
theorem wd_1496 : Cond.code yX9_put cX9_put 4 (some .boolean) ∈ hw_tbl := hw_sub (List.mem_of_getElem? (i := 1613) (by decide +kernel)) rfl
theorem wd_1494 : Cond.instanceMethod yX9_put ∈ hw_tbl := hw_sub (List.mem_of_getElem? (i := 1611) (by decide +kernel)) rfl
theorem wd_1495 : Cond.selects RX9 yX9_put yX9_put ∈ hw_tbl := hw_sub (List.mem_of_getElem? (i := 1612) (by decide +kernel)) rfl
theorem wd_1508 : Cond.code yX9_heal cX9_heal 1 (some .boolean) ∈ hw_tbl := hw_sub (List.mem_of_getElem? (i := 1625) (by decide +kernel)) rfl
theorem wd_1506 : Cond.instanceMethod yX9_heal ∈ hw_tbl := hw_sub (List.mem_of_getElem? (i := 1623) (by decide +kernel)) rfl
theorem wd_1507 : Cond.selects RX9 yX9_heal yX9_heal ∈ hw_tbl := hw_sub (List.mem_of_getElem? (i := 1624) (by decide +kernel)) rfl
theorem wd_1512 : Cond.code yX9_tell cX9_tell 3 (some .int) ∈ hw_tbl := hw_sub (List.mem_of_getElem? (i := 1629) (by decide +kernel)) rfl
theorem wd_1510 : Cond.instanceMethod yX9_tell ∈ hw_tbl := hw_sub (List.mem_of_getElem? (i := 1627) (by decide +kernel)) rfl
theorem wd_1511 : Cond.selects RX9 yX9_tell yX9_tell ∈ hw_tbl := hw_sub (List.mem_of_getElem? (i := 1628) (by decide +kernel)) rfl
theorem wd_1516 : Cond.code yX9_write cX9_write 3 (some .int) ∈ hw_tbl := hw_sub (List.mem_of_getElem? (i := 1633) (by decide +kernel)) rfl
theorem wd_1514 : Cond.instanceMethod yX9_write ∈ hw_tbl := hw_sub (List.mem_of_getElem? (i := 1631) (by decide +kernel)) rfl
theorem wd_1515 : Cond.selects RX9 yX9_write yX9_write ∈ hw_tbl := hw_sub (List.mem_of_getElem? (i := 1632) (by decide +kernel)) rfl
theorem wd_1520 : Cond.code yX9_read cX9_read 2 (some .int) ∈ hw_tbl := hw_sub (List.mem_of_getElem? (i := 1637) (by decide +kernel)) rfl
theorem wd_1518 : Cond.instanceMethod yX9_read ∈ hw_tbl := hw_sub (List.mem_of_getElem? (i := 1635) (by decide +kernel)) rfl
theorem wd_1519 : Cond.selects RX9 yX9_read yX9_read ∈ hw_tbl := hw_sub (List.mem_of_getElem? (i := 1636) (by decide +kernel)) rfl
theorem wd_1524 : Cond.code yX9_run cX9_run 4 (some .int) ∈ hw_tbl := hw_sub (List.mem_of_getElem? (i := 1641) (by decide +kernel)) rfl
theorem wd_1522 : Cond.instanceMethod yX9_run ∈ hw_tbl := hw_sub (List.mem_of_getElem? (i := 1639) (by decide +kernel)) rfl
theorem wd_1523 : Cond.selects RX9 yX9_run yX9_run ∈ hw_tbl := hw_sub (List.mem_of_getElem? (i := 1640) (by decide +kernel)) rfl
theorem wd_1528 : Cond.code yX9_layout cX9_layout 4 (some .int) ∈ hw_tbl := hw_sub (List.mem_of_getElem? (i := 1645) (by decide +kernel)) rfl
theorem wd_1526 : Cond.instanceMethod yX9_layout ∈ hw_tbl := hw_sub (List.mem_of_getElem? (i := 1643) (by decide +kernel)) rfl
theorem wd_1527 : Cond.selects RX9 yX9_layout yX9_layout ∈ hw_tbl := hw_sub (List.mem_of_getElem? (i := 1644) (by decide +kernel)) rfl
theorem wd_1532 : Cond.code yX9_cell cX9_cell 3 (some .int) ∈ hw_tbl := hw_sub (List.mem_of_getElem? (i := 1649) (by decide +kernel)) rfl
theorem wd_1530 : Cond.instanceMethod yX9_cell ∈ hw_tbl := hw_sub (List.mem_of_getElem? (i := 1647) (by decide +kernel)) rfl
theorem wd_1531 : Cond.selects RX9 yX9_cell yX9_cell ∈ hw_tbl := hw_sub (List.mem_of_getElem? (i := 1648) (by decide +kernel)) rfl
theorem wd_1536 : Cond.code yX9_log cX9_log 4 (some .int) ∈ hw_tbl := hw_sub (List.mem_of_getElem? (i := 1653) (by decide +kernel)) rfl
theorem wd_1534 : Cond.instanceMethod yX9_log ∈ hw_tbl := hw_sub (List.mem_of_getElem? (i := 1651) (by decide +kernel)) rfl
theorem wd_1535 : Cond.selects RX9 yX9_log yX9_log ∈ hw_tbl := hw_sub (List.mem_of_getElem? (i := 1652) (by decide +kernel)) rfl
theorem wd_1552 : Cond.code yX9_isAsLogged cX9_isAsLogged 2 (some .boolean) ∈ hw_tbl := hw_sub (List.mem_of_getElem? (i := 1669) (by decide +kernel)) rfl
theorem wd_1551 : Cond.instanceMethod yX9_isAsLogged ∈ hw_tbl := hw_sub (List.mem_of_getElem? (i := 1668) (by decide +kernel)) rfl
theorem ws_113 : Cond.selects RX9 yX9_isAsLogged yX9_isAsLogged ∈ hw_tbl := hw_sub (List.mem_of_getElem? (i := 113) (by decide +kernel)) rfl
theorem wd_1549 : Cond.methodLink RX9 361 yX9_isAsLogged ∈ hw_tbl := hw_sub (List.mem_of_getElem? (i := 1666) (by decide +kernel)) rfl
theorem wd_1548 : Cond.code yX9_fitsNow cX9_fitsNow 3 (some .boolean) ∈ hw_tbl := hw_sub (List.mem_of_getElem? (i := 1665) (by decide +kernel)) rfl
theorem wd_1547 : Cond.instanceMethod yX9_fitsNow ∈ hw_tbl := hw_sub (List.mem_of_getElem? (i := 1664) (by decide +kernel)) rfl
theorem ws_112 : Cond.selects RX9 yX9_fitsNow yX9_fitsNow ∈ hw_tbl := hw_sub (List.mem_of_getElem? (i := 112) (by decide +kernel)) rfl
theorem wd_1086 : Cond.fieldLink RX9 364 RX9 "fitMany" "I" ∈ hw_tbl := hw_sub (List.mem_of_getElem? (i := 1203) (by decide +kernel)) rfl
theorem wd_1545 : Cond.methodLink RX9 367 yX9_fitsNow ∈ hw_tbl := hw_sub (List.mem_of_getElem? (i := 1662) (by decide +kernel)) rfl
theorem wd_1544 : Cond.code yX9_gathersFits cX9_gathersFits 3 none ∈ hw_tbl := hw_sub (List.mem_of_getElem? (i := 1661) (by decide +kernel)) rfl
theorem wd_1543 : Cond.instanceMethod yX9_gathersFits ∈ hw_tbl := hw_sub (List.mem_of_getElem? (i := 1660) (by decide +kernel)) rfl
theorem ws_111 : Cond.selects RX9 yX9_gathersFits yX9_gathersFits ∈ hw_tbl := hw_sub (List.mem_of_getElem? (i := 111) (by decide +kernel)) rfl
theorem wd_1541 : Cond.methodLink RX9 370 yX9_gathersFits ∈ hw_tbl := hw_sub (List.mem_of_getElem? (i := 1658) (by decide +kernel)) rfl
theorem wd_1540 : Cond.code yX9_fits cX9_fits 2 (some .int) ∈ hw_tbl := hw_sub (List.mem_of_getElem? (i := 1657) (by decide +kernel)) rfl
theorem wd_1538 : Cond.instanceMethod yX9_fits ∈ hw_tbl := hw_sub (List.mem_of_getElem? (i := 1655) (by decide +kernel)) rfl
theorem wd_1539 : Cond.selects RX9 yX9_fits yX9_fits ∈ hw_tbl := hw_sub (List.mem_of_getElem? (i := 1656) (by decide +kernel)) rfl
theorem wd_1564 : Cond.code yX9_areAlike cX9_areAlike 4 (some .boolean) ∈ hw_tbl := hw_sub (List.mem_of_getElem? (i := 1681) (by decide +kernel)) rfl
theorem wd_1563 : Cond.instanceMethod yX9_areAlike ∈ hw_tbl := hw_sub (List.mem_of_getElem? (i := 1680) (by decide +kernel)) rfl
theorem ws_115 : Cond.selects RX9 yX9_areAlike yX9_areAlike ∈ hw_tbl := hw_sub (List.mem_of_getElem? (i := 115) (by decide +kernel)) rfl
theorem wd_1561 : Cond.methodLink RX9 373 yX9_areAlike ∈ hw_tbl := hw_sub (List.mem_of_getElem? (i := 1678) (by decide +kernel)) rfl
theorem wd_1560 : Cond.code yX9_partsOf cX9_partsOf 6 (some .int) ∈ hw_tbl := hw_sub (List.mem_of_getElem? (i := 1677) (by decide +kernel)) rfl
theorem wd_1559 : Cond.instanceMethod yX9_partsOf ∈ hw_tbl := hw_sub (List.mem_of_getElem? (i := 1676) (by decide +kernel)) rfl
theorem ws_114 : Cond.selects RX9 yX9_partsOf yX9_partsOf ∈ hw_tbl := hw_sub (List.mem_of_getElem? (i := 114) (by decide +kernel)) rfl
theorem wd_1557 : Cond.methodLink RX9 376 yX9_partsOf ∈ hw_tbl := hw_sub (List.mem_of_getElem? (i := 1674) (by decide +kernel)) rfl
theorem wd_1556 : Cond.code yX9_parts cX9_parts 2 (some .int) ∈ hw_tbl := hw_sub (List.mem_of_getElem? (i := 1673) (by decide +kernel)) rfl
theorem wd_1554 : Cond.instanceMethod yX9_parts ∈ hw_tbl := hw_sub (List.mem_of_getElem? (i := 1671) (by decide +kernel)) rfl
theorem wd_1555 : Cond.selects RX9 yX9_parts yX9_parts ∈ hw_tbl := hw_sub (List.mem_of_getElem? (i := 1672) (by decide +kernel)) rfl
theorem wd_1568 : Cond.code yX9_ask cX9_ask 5 (some .int) ∈ hw_tbl := hw_sub (List.mem_of_getElem? (i := 1685) (by decide +kernel)) rfl
theorem wd_1566 : Cond.instanceMethod yX9_ask ∈ hw_tbl := hw_sub (List.mem_of_getElem? (i := 1683) (by decide +kernel)) rfl
theorem wd_1567 : Cond.selects RX9 yX9_ask yX9_ask ∈ hw_tbl := hw_sub (List.mem_of_getElem? (i := 1684) (by decide +kernel)) rfl
theorem wd_1089 : Cond.fieldLink RX9 379 RX9 "x" "I" ∈ hw_tbl := hw_sub (List.mem_of_getElem? (i := 1206) (by decide +kernel)) rfl
theorem wd_1572 : Cond.code yX9_draws cX9_draws 3 (some .int) ∈ hw_tbl := hw_sub (List.mem_of_getElem? (i := 1689) (by decide +kernel)) rfl
theorem wd_1570 : Cond.instanceMethod yX9_draws ∈ hw_tbl := hw_sub (List.mem_of_getElem? (i := 1687) (by decide +kernel)) rfl
theorem wd_1571 : Cond.selects RX9 yX9_draws yX9_draws ∈ hw_tbl := hw_sub (List.mem_of_getElem? (i := 1688) (by decide +kernel)) rfl
theorem wd_1090 : Cond.fieldLink RX9 382 RX9 "drawX" "J" ∈ hw_tbl := hw_sub (List.mem_of_getElem? (i := 1207) (by decide +kernel)) rfl
theorem wd_1582 : Cond.constantLong RX9 386 (1103515245) ∈ hw_tbl := hw_sub (List.mem_of_getElem? (i := 1699) (by decide +kernel)) rfl
theorem wd_1583 : Cond.constantLong RX9 388 (12345) ∈ hw_tbl := hw_sub (List.mem_of_getElem? (i := 1700) (by decide +kernel)) rfl
theorem wd_1584 : Cond.constantLong RX9 390 (2147483648) ∈ hw_tbl := hw_sub (List.mem_of_getElem? (i := 1701) (by decide +kernel)) rfl
theorem wd_1585 : Cond.constantLong RX9 392 (65536) ∈ hw_tbl := hw_sub (List.mem_of_getElem? (i := 1702) (by decide +kernel)) rfl
theorem wd_1581 : Cond.code yX9_draw cX9_draw 2 (some .int) ∈ hw_tbl := hw_sub (List.mem_of_getElem? (i := 1698) (by decide +kernel)) rfl
theorem wd_1580 : Cond.instanceMethod yX9_draw ∈ hw_tbl := hw_sub (List.mem_of_getElem? (i := 1697) (by decide +kernel)) rfl
theorem ws_116 : Cond.selects RX9 yX9_draw yX9_draw ∈ hw_tbl := hw_sub (List.mem_of_getElem? (i := 116) (by decide +kernel)) rfl
theorem wd_1577 : Cond.constantLong RX9 394 (50) ∈ hw_tbl := hw_sub (List.mem_of_getElem? (i := 1694) (by decide +kernel)) rfl
theorem wd_1578 : Cond.methodLink RX9 396 yX9_draw ∈ hw_tbl := hw_sub (List.mem_of_getElem? (i := 1695) (by decide +kernel)) rfl
theorem wd_1576 : Cond.code yX9_drawn cX9_drawn 6 (some .int) ∈ hw_tbl := hw_sub (List.mem_of_getElem? (i := 1693) (by decide +kernel)) rfl
theorem wd_1574 : Cond.instanceMethod yX9_drawn ∈ hw_tbl := hw_sub (List.mem_of_getElem? (i := 1691) (by decide +kernel)) rfl
theorem wd_1575 : Cond.selects RX9 yX9_drawn yX9_drawn ∈ hw_tbl := hw_sub (List.mem_of_getElem? (i := 1692) (by decide +kernel)) rfl
theorem wd_1589 : Cond.code yX9_count cX9_count 2 (some .int) ∈ hw_tbl := hw_sub (List.mem_of_getElem? (i := 1706) (by decide +kernel)) rfl
theorem wd_1587 : Cond.instanceMethod yX9_count ∈ hw_tbl := hw_sub (List.mem_of_getElem? (i := 1704) (by decide +kernel)) rfl
theorem wd_1588 : Cond.selects RX9 yX9_count yX9_count ∈ hw_tbl := hw_sub (List.mem_of_getElem? (i := 1705) (by decide +kernel)) rfl
