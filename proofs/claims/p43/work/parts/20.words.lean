section RNP
theorem aw_1200 : (Jvm.Cond.selects "Powerwell" ({ cls := "Powerwell", name := "claimed", desc := "(I)J" } : Jvm.MethodName) ({ cls := "Powerwell", name := "claimed", desc := "(I)J" } : Jvm.MethodName)) ∈ rn_ALL := rn_in (i := 1263) (by decide +kernel) (by decide +kernel)
theorem aw_1201 : (Jvm.Cond.code ({ cls := "Powerwell", name := "claimed", desc := "(I)J" } : Jvm.MethodName) prog_1_method_30_code (2 : Nat) (Option.some Jvm.ClassFile.FieldType.long)) ∈ rn_ALL := rn_in (i := 1264) (by decide +kernel) (by decide +kernel)
theorem aw_1202 : (Jvm.Cond.methodLink "PowerwellLaw" (125 : Nat) ({ cls := "Powerwell", name := "source", desc := "()I" } : Jvm.MethodName)) ∈ rn_ALL := rn_in (i := 1265) (by decide +kernel) (by decide +kernel)
theorem aw_1203 : (Jvm.Cond.instanceMethod ({ cls := "Powerwell", name := "source", desc := "()I" } : Jvm.MethodName)) ∈ rn_ALL := rn_in (i := 1266) (by decide +kernel) (by decide +kernel)
theorem aw_1204 : (Jvm.Cond.selects "Powerwell" ({ cls := "Powerwell", name := "source", desc := "()I" } : Jvm.MethodName) ({ cls := "Powerwell", name := "source", desc := "()I" } : Jvm.MethodName)) ∈ rn_ALL := rn_in (i := 1267) (by decide +kernel) (by decide +kernel)
theorem aw_1205 : (Jvm.Cond.code ({ cls := "Powerwell", name := "source", desc := "()I" } : Jvm.MethodName) prog_1_method_31_code (1 : Nat) (Option.some Jvm.ClassFile.FieldType.int)) ∈ rn_ALL := rn_in (i := 1268) (by decide +kernel) (by decide +kernel)
theorem aw_1207 : (Jvm.Cond.classLink "Powerwell" (258 : Nat) "Powerwell$Source") ∈ rn_ALL := rn_in (i := 1270) (by decide +kernel) (by decide +kernel)
theorem aw_1208 : (Jvm.Cond.instantiable "Powerwell$Source" (3 : Nat)) ∈ rn_ALL := rn_in (i := 1271) (by decide +kernel) (by decide +kernel)
theorem aw_1210 : (Jvm.Cond.instanceMethod ({ cls := "Powerwell$Source", name := "<init>", desc := "()V" } : Jvm.MethodName)) ∈ rn_ALL := rn_in (i := 1273) (by decide +kernel) (by decide +kernel)
theorem aw_1211 : (Jvm.Cond.code ({ cls := "Powerwell$Source", name := "<init>", desc := "()V" } : Jvm.MethodName) prog_8_method_1_code (1 : Nat) (Option.none : Option Jvm.ClassFile.FieldType)) ∈ rn_ALL := rn_in (i := 1274) (by decide +kernel) (by decide +kernel)
theorem aw_1212 : (Jvm.Cond.methodLink "Powerwell$Source" (1 : Nat) ({ cls := "java/lang/Object", name := "<init>", desc := "()V" } : Jvm.MethodName)) ∈ rn_ALL := rn_in (i := 1275) (by decide +kernel) (by decide +kernel)
theorem aw_1214 : (Jvm.Cond.fieldLink "Powerwell$Source" (13 : Nat) "Powerwell$Source" "isMasked" "Z") ∈ rn_ALL := rn_in (i := 1277) (by decide +kernel) (by decide +kernel)
theorem aw_1216 : (Jvm.Cond.fieldLink "Powerwell$Source" (7 : Nat) "Powerwell$Source" "hasWake" "Z") ∈ rn_ALL := rn_in (i := 1279) (by decide +kernel) (by decide +kernel)
theorem aw_1225 : (Jvm.Cond.methodLink "PowerwellLaw" (129 : Nat) ({ cls := "Powerwell", name := "arm", desc := "(IZ)Z" } : Jvm.MethodName)) ∈ rn_ALL := rn_in (i := 1288) (by decide +kernel) (by decide +kernel)
theorem aw_1226 : (Jvm.Cond.instanceMethod ({ cls := "Powerwell", name := "arm", desc := "(IZ)Z" } : Jvm.MethodName)) ∈ rn_ALL := rn_in (i := 1289) (by decide +kernel) (by decide +kernel)
theorem aw_1227 : (Jvm.Cond.selects "Powerwell" ({ cls := "Powerwell", name := "arm", desc := "(IZ)Z" } : Jvm.MethodName) ({ cls := "Powerwell", name := "arm", desc := "(IZ)Z" } : Jvm.MethodName)) ∈ rn_ALL := rn_in (i := 1290) (by decide +kernel) (by decide +kernel)
theorem aw_1228 : (Jvm.Cond.code ({ cls := "Powerwell", name := "arm", desc := "(IZ)Z" } : Jvm.MethodName) prog_1_method_32_code (5 : Nat) (Option.some Jvm.ClassFile.FieldType.boolean)) ∈ rn_ALL := rn_in (i := 1291) (by decide +kernel) (by decide +kernel)
theorem aw_1229 : (Jvm.Cond.methodLink "Powerwell" (261 : Nat) ({ cls := "Powerwell", name := "sourceAt", desc := "(I)LPowerwell$Source;" } : Jvm.MethodName)) ∈ rn_ALL := rn_in (i := 1292) (by decide +kernel) (by decide +kernel)
theorem aw_1231 : (Jvm.Cond.instanceMethod ({ cls := "Powerwell", name := "sourceAt", desc := "(I)LPowerwell$Source;" } : Jvm.MethodName)) ∈ rn_ALL := rn_in (i := 1294) (by decide +kernel) (by decide +kernel)
theorem aw_1232 : (Jvm.Cond.code ({ cls := "Powerwell", name := "sourceAt", desc := "(I)LPowerwell$Source;" } : Jvm.MethodName) prog_1_method_47_code (2 : Nat) (Option.some (Jvm.ClassFile.FieldType.object "Powerwell$Source"))) ∈ rn_ALL := rn_in (i := 1295) (by decide +kernel) (by decide +kernel)
theorem aw_1234 : (Jvm.Cond.methodLink "PowerwellLaw" (133 : Nat) ({ cls := "Powerwell", name := "mask", desc := "(IZ)Z" } : Jvm.MethodName)) ∈ rn_ALL := rn_in (i := 1297) (by decide +kernel) (by decide +kernel)
theorem aw_1235 : (Jvm.Cond.instanceMethod ({ cls := "Powerwell", name := "mask", desc := "(IZ)Z" } : Jvm.MethodName)) ∈ rn_ALL := rn_in (i := 1298) (by decide +kernel) (by decide +kernel)
theorem aw_1236 : (Jvm.Cond.selects "Powerwell" ({ cls := "Powerwell", name := "mask", desc := "(IZ)Z" } : Jvm.MethodName) ({ cls := "Powerwell", name := "mask", desc := "(IZ)Z" } : Jvm.MethodName)) ∈ rn_ALL := rn_in (i := 1299) (by decide +kernel) (by decide +kernel)
theorem aw_1237 : (Jvm.Cond.code ({ cls := "Powerwell", name := "mask", desc := "(IZ)Z" } : Jvm.MethodName) prog_1_method_33_code (4 : Nat) (Option.some Jvm.ClassFile.FieldType.boolean)) ∈ rn_ALL := rn_in (i := 1300) (by decide +kernel) (by decide +kernel)
theorem aw_1238 : (Jvm.Cond.methodLink "Powerwell" (274 : Nat) ({ cls := "Powerwell", name := "wakeChipBy", desc := "(LPowerwell$Source;I)Z" } : Jvm.MethodName)) ∈ rn_ALL := rn_in (i := 1301) (by decide +kernel) (by decide +kernel)
theorem aw_1240 : (Jvm.Cond.instanceMethod ({ cls := "Powerwell", name := "wakeChipBy", desc := "(LPowerwell$Source;I)Z" } : Jvm.MethodName)) ∈ rn_ALL := rn_in (i := 1303) (by decide +kernel) (by decide +kernel)
theorem aw_1241 : (Jvm.Cond.code ({ cls := "Powerwell", name := "wakeChipBy", desc := "(LPowerwell$Source;I)Z" } : Jvm.MethodName) prog_1_method_53_code (5 : Nat) (Option.some Jvm.ClassFile.FieldType.boolean)) ∈ rn_ALL := rn_in (i := 1304) (by decide +kernel) (by decide +kernel)
theorem aw_1244 : (Jvm.Cond.instanceMethod ({ cls := "Powerwell$Source", name := "isPending", desc := "()Z" } : Jvm.MethodName)) ∈ rn_ALL := rn_in (i := 1307) (by decide +kernel) (by decide +kernel)
theorem aw_1245 : (Jvm.Cond.code ({ cls := "Powerwell$Source", name := "isPending", desc := "()Z" } : Jvm.MethodName) prog_8_method_2_code (1 : Nat) (Option.some Jvm.ClassFile.FieldType.boolean)) ∈ rn_ALL := rn_in (i := 1308) (by decide +kernel) (by decide +kernel)
theorem aw_1246 : (Jvm.Cond.methodLink "PowerwellLaw" (136 : Nat) ({ cls := "Powerwell", name := "wake", desc := "(I)Z" } : Jvm.MethodName)) ∈ rn_ALL := rn_in (i := 1309) (by decide +kernel) (by decide +kernel)
theorem aw_1247 : (Jvm.Cond.instanceMethod ({ cls := "Powerwell", name := "wake", desc := "(I)Z" } : Jvm.MethodName)) ∈ rn_ALL := rn_in (i := 1310) (by decide +kernel) (by decide +kernel)
theorem aw_1248 : (Jvm.Cond.selects "Powerwell" ({ cls := "Powerwell", name := "wake", desc := "(I)Z" } : Jvm.MethodName) ({ cls := "Powerwell", name := "wake", desc := "(I)Z" } : Jvm.MethodName)) ∈ rn_ALL := rn_in (i := 1311) (by decide +kernel) (by decide +kernel)
theorem aw_1249 : (Jvm.Cond.code ({ cls := "Powerwell", name := "wake", desc := "(I)Z" } : Jvm.MethodName) prog_1_method_34_code (3 : Nat) (Option.some Jvm.ClassFile.FieldType.boolean)) ∈ rn_ALL := rn_in (i := 1312) (by decide +kernel) (by decide +kernel)
theorem aw_1250 : (Jvm.Cond.methodLink "PowerwellLaw" (139 : Nat) ({ cls := "Powerwell", name := "sleep", desc := "()I" } : Jvm.MethodName)) ∈ rn_ALL := rn_in (i := 1313) (by decide +kernel) (by decide +kernel)
theorem aw_1251 : (Jvm.Cond.instanceMethod ({ cls := "Powerwell", name := "sleep", desc := "()I" } : Jvm.MethodName)) ∈ rn_ALL := rn_in (i := 1314) (by decide +kernel) (by decide +kernel)
theorem aw_1252 : (Jvm.Cond.selects "Powerwell" ({ cls := "Powerwell", name := "sleep", desc := "()I" } : Jvm.MethodName) ({ cls := "Powerwell", name := "sleep", desc := "()I" } : Jvm.MethodName)) ∈ rn_ALL := rn_in (i := 1315) (by decide +kernel) (by decide +kernel)
theorem aw_1253 : (Jvm.Cond.code ({ cls := "Powerwell", name := "sleep", desc := "()I" } : Jvm.MethodName) prog_1_method_35_code (3 : Nat) (Option.some Jvm.ClassFile.FieldType.int)) ∈ rn_ALL := rn_in (i := 1316) (by decide +kernel) (by decide +kernel)
theorem aw_1254 : (Jvm.Cond.methodLink "PowerwellLaw" (142 : Nat) ({ cls := "Powerwell", name := "cause", desc := "()I" } : Jvm.MethodName)) ∈ rn_ALL := rn_in (i := 1317) (by decide +kernel) (by decide +kernel)
theorem aw_1255 : (Jvm.Cond.instanceMethod ({ cls := "Powerwell", name := "cause", desc := "()I" } : Jvm.MethodName)) ∈ rn_ALL := rn_in (i := 1318) (by decide +kernel) (by decide +kernel)
theorem aw_1256 : (Jvm.Cond.selects "Powerwell" ({ cls := "Powerwell", name := "cause", desc := "()I" } : Jvm.MethodName) ({ cls := "Powerwell", name := "cause", desc := "()I" } : Jvm.MethodName)) ∈ rn_ALL := rn_in (i := 1319) (by decide +kernel) (by decide +kernel)
theorem aw_1257 : (Jvm.Cond.code ({ cls := "Powerwell", name := "cause", desc := "()I" } : Jvm.MethodName) prog_1_method_37_code (1 : Nat) (Option.some Jvm.ClassFile.FieldType.int)) ∈ rn_ALL := rn_in (i := 1320) (by decide +kernel) (by decide +kernel)
theorem aw_1274 : (Jvm.Cond.constant "PowerwellLaw" (75 : Nat) (-2000000001 : Int32)) ∈ rn_ALL := rn_in (i := 1337) (by decide +kernel) (by decide +kernel)
theorem aw_1275 : (Jvm.Cond.constant "PowerwellLaw" (78 : Nat) (-2000000002 : Int32)) ∈ rn_ALL := rn_in (i := 1338) (by decide +kernel) (by decide +kernel)
theorem aw_1276 : (Jvm.Cond.constant "PowerwellLaw" (81 : Nat) (-2000000003 : Int32)) ∈ rn_ALL := rn_in (i := 1339) (by decide +kernel) (by decide +kernel)
theorem aw_1277 : (Jvm.Cond.constant "PowerwellLaw" (84 : Nat) (-2000000004 : Int32)) ∈ rn_ALL := rn_in (i := 1340) (by decide +kernel) (by decide +kernel)
theorem aw_1278 : (Jvm.Cond.constant "PowerwellLaw" (87 : Nat) (-2000000005 : Int32)) ∈ rn_ALL := rn_in (i := 1341) (by decide +kernel) (by decide +kernel)
theorem aw_1279 : (Jvm.Cond.methodLink "PowerwellLaw" (156 : Nat) ({ cls := "PowerwellLaw", name := "hasNone", desc := "(LPowerwell;Z)Z" } : Jvm.MethodName)) ∈ rn_ALL := rn_in (i := 1342) (by decide +kernel) (by decide +kernel)
theorem aw_1280 : (Jvm.Cond.static ({ cls := "PowerwellLaw", name := "hasNone", desc := "(LPowerwell;Z)Z" } : Jvm.MethodName)) ∈ rn_ALL := rn_in (i := 1343) (by decide +kernel) (by decide +kernel)
theorem aw_1281 : (Jvm.Cond.codeWith ({ cls := "PowerwellLaw", name := "hasNone", desc := "(LPowerwell;Z)Z" } : Jvm.MethodName) method_6_code (4 : Nat) (Option.some Jvm.ClassFile.FieldType.boolean) [((0 : Nat), (18 : Nat), (19 : Nat), (153 : Nat))]) ∈ rn_ALL := rn_in (i := 1344) (by decide +kernel) (by decide +kernel)
theorem aw_1296 : (Jvm.Cond.methodLink "PowerwellLaw" (145 : Nat) ({ cls := "Powerwell", name := "onShare", desc := "()F" } : Jvm.MethodName)) ∈ rn_ALL := rn_in (i := 1359) (by decide +kernel) (by decide +kernel)
theorem aw_1297 : (Jvm.Cond.instanceMethod ({ cls := "Powerwell", name := "onShare", desc := "()F" } : Jvm.MethodName)) ∈ rn_ALL := rn_in (i := 1360) (by decide +kernel) (by decide +kernel)
theorem aw_1298 : (Jvm.Cond.selects "Powerwell" ({ cls := "Powerwell", name := "onShare", desc := "()F" } : Jvm.MethodName) ({ cls := "Powerwell", name := "onShare", desc := "()F" } : Jvm.MethodName)) ∈ rn_ALL := rn_in (i := 1361) (by decide +kernel) (by decide +kernel)
theorem aw_1299 : (Jvm.Cond.code ({ cls := "Powerwell", name := "onShare", desc := "()F" } : Jvm.MethodName) prog_1_method_38_code (4 : Nat) (Option.some Jvm.ClassFile.FieldType.float)) ∈ rn_ALL := rn_in (i := 1362) (by decide +kernel) (by decide +kernel)
theorem aw_1303 : (Jvm.Cond.methodLink "PowerwellLaw" (149 : Nat) ({ cls := "Powerwell", name := "meanWarmth", desc := "()D" } : Jvm.MethodName)) ∈ rn_ALL := rn_in (i := 1366) (by decide +kernel) (by decide +kernel)
theorem aw_1304 : (Jvm.Cond.instanceMethod ({ cls := "Powerwell", name := "meanWarmth", desc := "()D" } : Jvm.MethodName)) ∈ rn_ALL := rn_in (i := 1367) (by decide +kernel) (by decide +kernel)
theorem aw_1305 : (Jvm.Cond.selects "Powerwell" ({ cls := "Powerwell", name := "meanWarmth", desc := "()D" } : Jvm.MethodName) ({ cls := "Powerwell", name := "meanWarmth", desc := "()D" } : Jvm.MethodName)) ∈ rn_ALL := rn_in (i := 1368) (by decide +kernel) (by decide +kernel)
theorem aw_1306 : (Jvm.Cond.code ({ cls := "Powerwell", name := "meanWarmth", desc := "()D" } : Jvm.MethodName) prog_1_method_39_code (5 : Nat) (Option.some Jvm.ClassFile.FieldType.double)) ∈ rn_ALL := rn_in (i := 1369) (by decide +kernel) (by decide +kernel)
theorem aw_1307 : (Jvm.Cond.methodLink "PowerwellLaw" (176 : Nat) ({ cls := "PowerwellLaw", name := "full", desc := "()Z" } : Jvm.MethodName)) ∈ rn_ALL := rn_in (i := 1370) (by decide +kernel) (by decide +kernel)
theorem aw_1308 : (Jvm.Cond.static ({ cls := "PowerwellLaw", name := "full", desc := "()Z" } : Jvm.MethodName)) ∈ rn_ALL := rn_in (i := 1371) (by decide +kernel) (by decide +kernel)
theorem aw_1309 : (Jvm.Cond.code ({ cls := "PowerwellLaw", name := "full", desc := "()Z" } : Jvm.MethodName) method_8_code (2 : Nat) (Option.some Jvm.ClassFile.FieldType.boolean)) ∈ rn_ALL := rn_in (i := 1372) (by decide +kernel) (by decide +kernel)
theorem aw_1310 : (Jvm.Cond.methodLink "PowerwellLaw" (179 : Nat) ({ cls := "PowerwellLaw", name := "sleeping", desc := "([I)Z" } : Jvm.MethodName)) ∈ rn_ALL := rn_in (i := 1373) (by decide +kernel) (by decide +kernel)
theorem aw_1311 : (Jvm.Cond.static ({ cls := "PowerwellLaw", name := "sleeping", desc := "([I)Z" } : Jvm.MethodName)) ∈ rn_ALL := rn_in (i := 1374) (by decide +kernel) (by decide +kernel)
theorem aw_1312 : (Jvm.Cond.code ({ cls := "PowerwellLaw", name := "sleeping", desc := "([I)Z" } : Jvm.MethodName) method_9_code (19 : Nat) (Option.some Jvm.ClassFile.FieldType.boolean)) ∈ rn_ALL := List.mem_filter.mpr ⟨List.mem_append_right (k2_sels lw_privs) (List.mem_append_right tables_1_1 (List.mem_append_right tables_1_2 (List.mem_append_right tables_1_3 (List.mem_append_right tables_1_4 (List.mem_append_right tables_1_5 (List.mem_of_getElem? (i := 112) rfl)))))), by decide +kernel⟩
theorem aw_1313 : (Jvm.Cond.methodLink "PowerwellLaw" (183 : Nat) ({ cls := "PowerwellLaw", name := "at", desc := "([II)I" } : Jvm.MethodName)) ∈ rn_ALL := rn_in (i := 1376) (by decide +kernel) (by decide +kernel)
theorem aw_1314 : (Jvm.Cond.static ({ cls := "PowerwellLaw", name := "at", desc := "([II)I" } : Jvm.MethodName)) ∈ rn_ALL := rn_in (i := 1377) (by decide +kernel) (by decide +kernel)
theorem aw_1315 : (Jvm.Cond.code ({ cls := "PowerwellLaw", name := "at", desc := "([II)I" } : Jvm.MethodName) method_2_code (2 : Nat) (Option.some Jvm.ClassFile.FieldType.int)) ∈ rn_ALL := rn_in (i := 1378) (by decide +kernel) (by decide +kernel)
theorem aw_1316 : (Jvm.Cond.methodLink "PowerwellLaw" (187 : Nat) ({ cls := "PowerwellLaw", name := "some", desc := "(II)I" } : Jvm.MethodName)) ∈ rn_ALL := rn_in (i := 1379) (by decide +kernel) (by decide +kernel)
theorem aw_1317 : (Jvm.Cond.static ({ cls := "PowerwellLaw", name := "some", desc := "(II)I" } : Jvm.MethodName)) ∈ rn_ALL := rn_in (i := 1380) (by decide +kernel) (by decide +kernel)
theorem aw_1318 : (Jvm.Cond.code ({ cls := "PowerwellLaw", name := "some", desc := "(II)I" } : Jvm.MethodName) method_3_code (3 : Nat) (Option.some Jvm.ClassFile.FieldType.int)) ∈ rn_ALL := rn_in (i := 1381) (by decide +kernel) (by decide +kernel)
theorem aw_1319 : (Jvm.Cond.constant "PowerwellLaw" (190 : Nat) (100000 : Int32)) ∈ rn_ALL := rn_in (i := 1382) (by decide +kernel) (by decide +kernel)
theorem aw_1320 : (Jvm.Cond.methodLink "PowerwellLaw" (191 : Nat) ({ cls := "PowerwellLaw", name := "stand", desc := "(LPowerwell;[ZZ)Z" } : Jvm.MethodName)) ∈ rn_ALL := rn_in (i := 1383) (by decide +kernel) (by decide +kernel)
theorem aw_1321 : (Jvm.Cond.static ({ cls := "PowerwellLaw", name := "stand", desc := "(LPowerwell;[ZZ)Z" } : Jvm.MethodName)) ∈ rn_ALL := rn_in (i := 1384) (by decide +kernel) (by decide +kernel)
theorem aw_1322 : (Jvm.Cond.code ({ cls := "PowerwellLaw", name := "stand", desc := "(LPowerwell;[ZZ)Z" } : Jvm.MethodName) method_10_code (6 : Nat) (Option.some Jvm.ClassFile.FieldType.boolean)) ∈ rn_ALL := rn_in (i := 1385) (by decide +kernel) (by decide +kernel)
theorem aw_1323 : (Jvm.Cond.arrayClass Jvm.ClassFile.FieldType.boolean) ∈ rn_ALL := rn_in (i := 1386) (by decide +kernel) (by decide +kernel)
theorem aw_1324 : (Jvm.Cond.constantLong "PowerwellLaw" (168 : Nat) (7 : Int64)) ∈ rn_ALL := rn_in (i := 1387) (by decide +kernel) (by decide +kernel)
theorem as_0 : Cond.selects "Powerwell$Domain" ⟨"Powerwell$Domain", "isUsed", "()Z"⟩ ⟨"Powerwell$Domain", "isUsed", "()Z"⟩ ∈ rn_ALL := rn_in (i := 0) (by decide +kernel) (by decide +kernel)
theorem as_1 : Cond.selects "Powerwell" ⟨"Powerwell", "areRegistersKept", "()Z"⟩ ⟨"Powerwell", "areRegistersKept", "()Z"⟩ ∈ rn_ALL := rn_in (i := 1) (by decide +kernel) (by decide +kernel)
theorem as_2 : Cond.selects "Powerwell" ⟨"Powerwell", "areUsedDomainsOn", "()Z"⟩ ⟨"Powerwell", "areUsedDomainsOn", "()Z"⟩ ∈ rn_ALL := rn_in (i := 2) (by decide +kernel) (by decide +kernel)
theorem as_3 : Cond.selects "Powerwell$Domain" ⟨"Powerwell$Domain", "isUsedUpward", "()Z"⟩ ⟨"Powerwell$Domain", "isUsedUpward", "()Z"⟩ ∈ rn_ALL := rn_in (i := 3) (by decide +kernel) (by decide +kernel)
theorem as_4 : Cond.selects "Powerwell" ⟨"Powerwell", "areClaimsAllEnergy", "()Z"⟩ ⟨"Powerwell", "areClaimsAllEnergy", "()Z"⟩ ∈ rn_ALL := rn_in (i := 4) (by decide +kernel) (by decide +kernel)
theorem as_5 : Cond.selects "Powerwell" ⟨"Powerwell", "areLevelsBounded", "()Z"⟩ ⟨"Powerwell", "areLevelsBounded", "()Z"⟩ ∈ rn_ALL := rn_in (i := 5) (by decide +kernel) (by decide +kernel)
theorem as_6 : Cond.selects "Powerwell$Rail" ⟨"Powerwell$Rail", "greatestLevel", "()I"⟩ ⟨"Powerwell$Rail", "greatestLevel", "()I"⟩ ∈ rn_ALL := rn_in (i := 6) (by decide +kernel) (by decide +kernel)
theorem as_8 : Cond.selects "java/util/ArrayList" ⟨"java/util/ArrayList", "add", "(Ljava/lang/Object;[Ljava/lang/Object;I)V"⟩ ⟨"java/util/ArrayList", "add", "(Ljava/lang/Object;[Ljava/lang/Object;I)V"⟩ ∈ rn_ALL := rn_in (i := 8) (by decide +kernel) (by decide +kernel)
theorem as_9 : Cond.selects "java/util/ArrayList" ⟨"java/util/ArrayList", "grow", "()[Ljava/lang/Object;"⟩ ⟨"java/util/ArrayList", "grow", "()[Ljava/lang/Object;"⟩ ∈ rn_ALL := rn_in (i := 9) (by decide +kernel) (by decide +kernel)
theorem as_10 : Cond.selects "java/util/ArrayList" ⟨"java/util/ArrayList", "grow", "(I)[Ljava/lang/Object;"⟩ ⟨"java/util/ArrayList", "grow", "(I)[Ljava/lang/Object;"⟩ ∈ rn_ALL := rn_in (i := 10) (by decide +kernel) (by decide +kernel)
theorem as_11 : Cond.selects "Powerwell" ⟨"Powerwell", "railAt", "(I)LPowerwell$Rail;"⟩ ⟨"Powerwell", "railAt", "(I)LPowerwell$Rail;"⟩ ∈ rn_ALL := rn_in (i := 11) (by decide +kernel) (by decide +kernel)
theorem as_12 : Cond.selects "Powerwell$Rail" ⟨"Powerwell$Rail", "isBeyondLastPair", "(II)Z"⟩ ⟨"Powerwell$Rail", "isBeyondLastPair", "(II)Z"⟩ ∈ rn_ALL := rn_in (i := 12) (by decide +kernel) (by decide +kernel)
theorem as_13 : Cond.selects "Powerwell$Rail" ⟨"Powerwell$Rail", "wish", "()I"⟩ ⟨"Powerwell$Rail", "wish", "()I"⟩ ∈ rn_ALL := rn_in (i := 13) (by decide +kernel) (by decide +kernel)
theorem as_14 : Cond.selects "Powerwell$Rail" ⟨"Powerwell$Rail", "sumOfVotes", "()I"⟩ ⟨"Powerwell$Rail", "sumOfVotes", "()I"⟩ ∈ rn_ALL := rn_in (i := 14) (by decide +kernel) (by decide +kernel)
theorem as_15 : Cond.selects "Powerwell$Rail" ⟨"Powerwell$Rail", "greatestVote", "()I"⟩ ⟨"Powerwell$Rail", "greatestVote", "()I"⟩ ∈ rn_ALL := rn_in (i := 15) (by decide +kernel) (by decide +kernel)
theorem as_16 : Cond.selects "Powerwell$Rail" ⟨"Powerwell$Rail", "aimedPair", "()I"⟩ ⟨"Powerwell$Rail", "aimedPair", "()I"⟩ ∈ rn_ALL := rn_in (i := 16) (by decide +kernel) (by decide +kernel)
theorem as_17 : Cond.selects "Powerwell$Rail" ⟨"Powerwell$Rail", "isOverBudget", "()Z"⟩ ⟨"Powerwell$Rail", "isOverBudget", "()Z"⟩ ∈ rn_ALL := rn_in (i := 17) (by decide +kernel) (by decide +kernel)
theorem as_18 : Cond.selects "Powerwell" ⟨"Powerwell", "domainAt", "(I)LPowerwell$Domain;"⟩ ⟨"Powerwell", "domainAt", "(I)LPowerwell$Domain;"⟩ ∈ rn_ALL := rn_in (i := 18) (by decide +kernel) (by decide +kernel)
theorem as_19 : Cond.selects "Powerwell" ⟨"Powerwell", "deviceAt", "(I)LPowerwell$Device;"⟩ ⟨"Powerwell", "deviceAt", "(I)LPowerwell$Device;"⟩ ∈ rn_ALL := rn_in (i := 19) (by decide +kernel) (by decide +kernel)
theorem as_20 : Cond.selects "Powerwell$Device" ⟨"Powerwell$Device", "hasSupplier", "(LPowerwell$Device;)Z"⟩ ⟨"Powerwell$Device", "hasSupplier", "(LPowerwell$Device;)Z"⟩ ∈ rn_ALL := rn_in (i := 20) (by decide +kernel) (by decide +kernel)
theorem as_21 : Cond.selects "Powerwell$Device" ⟨"Powerwell$Device", "addSupplier", "(LPowerwell$Device;)V"⟩ ⟨"Powerwell$Device", "addSupplier", "(LPowerwell$Device;)V"⟩ ∈ rn_ALL := rn_in (i := 21) (by decide +kernel) (by decide +kernel)
theorem as_22 : Cond.selects "java/util/ArrayList" ⟨"java/util/ArrayList", "rangeCheckForAdd", "(I)V"⟩ ⟨"java/util/ArrayList", "rangeCheckForAdd", "(I)V"⟩ ∈ rn_ALL := rn_in (i := 22) (by decide +kernel) (by decide +kernel)
theorem as_24 : Cond.selects "Powerwell" ⟨"Powerwell", "refuseAsleep", "()V"⟩ ⟨"Powerwell", "refuseAsleep", "()V"⟩ ∈ rn_ALL := rn_in (i := 24) (by decide +kernel) (by decide +kernel)
theorem as_25 : Cond.selects "Powerwell" ⟨"Powerwell", "take", "(LPowerwell$Device;)V"⟩ ⟨"Powerwell", "take", "(LPowerwell$Device;)V"⟩ ∈ rn_ALL := rn_in (i := 25) (by decide +kernel) (by decide +kernel)
theorem as_26 : Cond.selects "Powerwell$Device" ⟨"Powerwell$Device", "wakeUp", "(I)V"⟩ ⟨"Powerwell$Device", "wakeUp", "(I)V"⟩ ∈ rn_ALL := rn_in (i := 26) (by decide +kernel) (by decide +kernel)
theorem as_27 : Cond.selects "Powerwell$Domain" ⟨"Powerwell$Domain", "addUse", "()V"⟩ ⟨"Powerwell$Domain", "addUse", "()V"⟩ ∈ rn_ALL := rn_in (i := 27) (by decide +kernel) (by decide +kernel)
theorem as_28 : Cond.selects "Powerwell$Idleness" ⟨"Powerwell$Idleness", "endStay", "(I)V"⟩ ⟨"Powerwell$Idleness", "endStay", "(I)V"⟩ ∈ rn_ALL := rn_in (i := 28) (by decide +kernel) (by decide +kernel)
theorem as_29 : Cond.selects "Powerwell$Idleness" ⟨"Powerwell$Idleness", "addStay", "(I)V"⟩ ⟨"Powerwell$Idleness", "addStay", "(I)V"⟩ ∈ rn_ALL := rn_in (i := 29) (by decide +kernel) (by decide +kernel)
theorem as_32 : Cond.selects "Powerwell$Device" ⟨"Powerwell$Device", "fallAsleep", "(ILjava/util/ArrayList;)V"⟩ ⟨"Powerwell$Device", "fallAsleep", "(ILjava/util/ArrayList;)V"⟩ ∈ rn_ALL := rn_in (i := 32) (by decide +kernel) (by decide +kernel)
theorem as_33 : Cond.selects "Powerwell$Domain" ⟨"Powerwell$Domain", "dropUse", "()V"⟩ ⟨"Powerwell$Domain", "dropUse", "()V"⟩ ∈ rn_ALL := rn_in (i := 33) (by decide +kernel) (by decide +kernel)
theorem as_34 : Cond.selects "Powerwell$Domain" ⟨"Powerwell$Domain", "loseRegisters", "()V"⟩ ⟨"Powerwell$Domain", "loseRegisters", "()V"⟩ ∈ rn_ALL := rn_in (i := 34) (by decide +kernel) (by decide +kernel)
theorem as_35 : Cond.selects "Powerwell$Idleness" ⟨"Powerwell$Idleness", "beginStay", "(ILjava/util/ArrayList;)V"⟩ ⟨"Powerwell$Idleness", "beginStay", "(ILjava/util/ArrayList;)V"⟩ ∈ rn_ALL := rn_in (i := 35) (by decide +kernel) (by decide +kernel)
theorem as_36 : Cond.selects "Powerwell$Idleness" ⟨"Powerwell$Idleness", "deepest", "(Ljava/util/ArrayList;)LPowerwell$Depth;"⟩ ⟨"Powerwell$Idleness", "deepest", "(Ljava/util/ArrayList;)LPowerwell$Depth;"⟩ ∈ rn_ALL := rn_in (i := 36) (by decide +kernel) (by decide +kernel)
theorem as_37 : Cond.selects "Powerwell$Idleness" ⟨"Powerwell$Idleness", "meanStay", "()I"⟩ ⟨"Powerwell$Idleness", "meanStay", "()I"⟩ ∈ rn_ALL := rn_in (i := 37) (by decide +kernel) (by decide +kernel)
theorem as_38 : Cond.selects "Powerwell" ⟨"Powerwell", "reachableAt", "(I)LPowerwell$Device;"⟩ ⟨"Powerwell", "reachableAt", "(I)LPowerwell$Device;"⟩ ∈ rn_ALL := rn_in (i := 38) (by decide +kernel) (by decide +kernel)
theorem as_40 : Cond.selects "Powerwell" ⟨"Powerwell", "passTick", "()V"⟩ ⟨"Powerwell", "passTick", "()V"⟩ ∈ rn_ALL := rn_in (i := 40) (by decide +kernel) (by decide +kernel)
theorem as_41 : Cond.selects "Powerwell$Rail" ⟨"Powerwell$Rail", "riseAndSpeed", "(Z)V"⟩ ⟨"Powerwell$Rail", "riseAndSpeed", "(Z)V"⟩ ∈ rn_ALL := rn_in (i := 41) (by decide +kernel) (by decide +kernel)
theorem as_42 : Cond.selects "Powerwell$Rail" ⟨"Powerwell$Rail", "aimedLevel", "(Z)I"⟩ ⟨"Powerwell$Rail", "aimedLevel", "(Z)I"⟩ ∈ rn_ALL := rn_in (i := 42) (by decide +kernel) (by decide +kernel)
theorem as_43 : Cond.selects "Powerwell$Rail" ⟨"Powerwell$Rail", "isUsed", "()Z"⟩ ⟨"Powerwell$Rail", "isUsed", "()Z"⟩ ∈ rn_ALL := rn_in (i := 43) (by decide +kernel) (by decide +kernel)
theorem as_44 : Cond.selects "Powerwell$Rail" ⟨"Powerwell$Rail", "reachedSpeed", "()I"⟩ ⟨"Powerwell$Rail", "reachedSpeed", "()I"⟩ ∈ rn_ALL := rn_in (i := 44) (by decide +kernel) (by decide +kernel)
theorem as_45 : Cond.selects "Powerwell$Device" ⟨"Powerwell$Device", "doWork", "()V"⟩ ⟨"Powerwell$Device", "doWork", "()V"⟩ ∈ rn_ALL := rn_in (i := 45) (by decide +kernel) (by decide +kernel)
theorem as_46 : Cond.selects "Powerwell$Idleness" ⟨"Powerwell$Idleness", "passCost", "()Z"⟩ ⟨"Powerwell$Idleness", "passCost", "()Z"⟩ ∈ rn_ALL := rn_in (i := 46) (by decide +kernel) (by decide +kernel)
theorem as_47 : Cond.selects "Powerwell" ⟨"Powerwell", "reckonEnergy", "()V"⟩ ⟨"Powerwell", "reckonEnergy", "()V"⟩ ∈ rn_ALL := rn_in (i := 47) (by decide +kernel) (by decide +kernel)
theorem as_48 : Cond.selects "Powerwell$Domain" ⟨"Powerwell$Domain", "gainEnergy", "()V"⟩ ⟨"Powerwell$Domain", "gainEnergy", "()V"⟩ ∈ rn_ALL := rn_in (i := 48) (by decide +kernel) (by decide +kernel)
theorem as_49 : Cond.selects "Powerwell$Domain" ⟨"Powerwell$Domain", "energyOfWork", "()I"⟩ ⟨"Powerwell$Domain", "energyOfWork", "()I"⟩ ∈ rn_ALL := rn_in (i := 49) (by decide +kernel) (by decide +kernel)
theorem as_50 : Cond.selects "Powerwell$Rail" ⟨"Powerwell$Rail", "energyOfTick", "()J"⟩ ⟨"Powerwell$Rail", "energyOfTick", "()J"⟩ ∈ rn_ALL := rn_in (i := 50) (by decide +kernel) (by decide +kernel)
theorem as_51 : Cond.selects "Powerwell$Rail" ⟨"Powerwell$Rail", "remember", "(J)V"⟩ ⟨"Powerwell$Rail", "remember", "(J)V"⟩ ∈ rn_ALL := rn_in (i := 51) (by decide +kernel) (by decide +kernel)
theorem as_52 : Cond.selects "Powerwell" ⟨"Powerwell", "claimEnergy", "(LPowerwell$Rail;J)V"⟩ ⟨"Powerwell", "claimEnergy", "(LPowerwell$Rail;J)V"⟩ ∈ rn_ALL := rn_in (i := 52) (by decide +kernel) (by decide +kernel)
theorem as_53 : Cond.selects "Powerwell" ⟨"Powerwell", "letWarmthFlow", "()V"⟩ ⟨"Powerwell", "letWarmthFlow", "()V"⟩ ∈ rn_ALL := rn_in (i := 53) (by decide +kernel) (by decide +kernel)
theorem as_54 : Cond.selects "Powerwell$Domain" ⟨"Powerwell$Domain", "reckonFlow", "()V"⟩ ⟨"Powerwell$Domain", "reckonFlow", "()V"⟩ ∈ rn_ALL := rn_in (i := 54) (by decide +kernel) (by decide +kernel)
theorem as_55 : Cond.selects "Powerwell$Domain" ⟨"Powerwell$Domain", "flowOut", "()V"⟩ ⟨"Powerwell$Domain", "flowOut", "()V"⟩ ∈ rn_ALL := rn_in (i := 55) (by decide +kernel) (by decide +kernel)
theorem as_56 : Cond.selects "Powerwell$Rail" ⟨"Powerwell$Rail", "lookAtTrips", "()V"⟩ ⟨"Powerwell$Rail", "lookAtTrips", "()V"⟩ ∈ rn_ALL := rn_in (i := 56) (by decide +kernel) (by decide +kernel)
theorem as_57 : Cond.selects "Powerwell$Rail" ⟨"Powerwell$Rail", "fall", "(Z)V"⟩ ⟨"Powerwell$Rail", "fall", "(Z)V"⟩ ∈ rn_ALL := rn_in (i := 57) (by decide +kernel) (by decide +kernel)
theorem as_58 : Cond.selects "Powerwell" ⟨"Powerwell", "passDelays", "()V"⟩ ⟨"Powerwell", "passDelays", "()V"⟩ ∈ rn_ALL := rn_in (i := 58) (by decide +kernel) (by decide +kernel)
theorem as_59 : Cond.selects "Powerwell$Device" ⟨"Powerwell$Device", "isIdling", "()Z"⟩ ⟨"Powerwell$Device", "isIdling", "()Z"⟩ ∈ rn_ALL := rn_in (i := 59) (by decide +kernel) (by decide +kernel)
theorem as_60 : Cond.selects "Powerwell" ⟨"Powerwell", "sourceAt", "(I)LPowerwell$Source;"⟩ ⟨"Powerwell", "sourceAt", "(I)LPowerwell$Source;"⟩ ∈ rn_ALL := rn_in (i := 60) (by decide +kernel) (by decide +kernel)
theorem as_61 : Cond.selects "Powerwell" ⟨"Powerwell", "wakeChipBy", "(LPowerwell$Source;I)Z"⟩ ⟨"Powerwell", "wakeChipBy", "(LPowerwell$Source;I)Z"⟩ ∈ rn_ALL := rn_in (i := 61) (by decide +kernel) (by decide +kernel)
theorem as_62 : Cond.selects "Powerwell$Source" ⟨"Powerwell$Source", "isPending", "()Z"⟩ ⟨"Powerwell$Source", "isPending", "()Z"⟩ ∈ rn_ALL := rn_in (i := 62) (by decide +kernel) (by decide +kernel)
theorem ab_131 : (Jvm.Cond.methodLinkNest "Powerwell" (122 : Nat) ({ cls := "Powerwell$Domain", name := "isUsed", desc := "()Z" } : Jvm.MethodName) "Powerwell") ∈ lw_tbl := List.mem_of_getElem? (i := 194) (by decide +kernel)
theorem ab_150 : (Jvm.Cond.methodLinkNest "Powerwell" (397 : Nat) ({ cls := "Powerwell$Domain", name := "isUsedUpward", desc := "()Z" } : Jvm.MethodName) "Powerwell") ∈ lw_tbl := List.mem_of_getElem? (i := 213) (by decide +kernel)
theorem ab_163 : (Jvm.Cond.methodLinkNest "Powerwell" (400 : Nat) ({ cls := "Powerwell$Rail", name := "greatestLevel", desc := "()I" } : Jvm.MethodName) "Powerwell") ∈ lw_tbl := List.mem_of_getElem? (i := 226) (by decide +kernel)
theorem ab_275 : (Jvm.Cond.stringRef "Powerwell" (38 : Nat) "no such rule") ∈ lw_tbl := List.mem_of_getElem? (i := 338) (by decide +kernel)
theorem ab_285 : (Jvm.Cond.stringRef "Powerwell" (47 : Nat) "the ramp is out of range") ∈ lw_tbl := List.mem_of_getElem? (i := 348) (by decide +kernel)
theorem ab_295 : (Jvm.Cond.stringRef "Powerwell" (55 : Nat) "no more rails") ∈ lw_tbl := List.mem_of_getElem? (i := 358) (by decide +kernel)
theorem ab_302 : (Jvm.Cond.methodLinkNest "Powerwell" (60 : Nat) ({ cls := "Powerwell$Rail", name := "<init>", desc := "(IZ)V" } : Jvm.MethodName) "Powerwell") ∈ lw_tbl := List.mem_of_getElem? (i := 365) (by decide +kernel)
theorem ab_311 : (Jvm.Cond.fieldLinkNest "Powerwell" (79 : Nat) "Powerwell$Rail" "pairs" "Ljava/util/ArrayList;" "Powerwell") ∈ lw_tbl := List.mem_of_getElem? (i := 374) (by decide +kernel)
theorem ab_313 : (Jvm.Cond.fieldLinkNest "Powerwell" (121 : Nat) "Powerwell$Rail" "domains" "Ljava/util/ArrayList;" "Powerwell") ∈ lw_tbl := List.mem_of_getElem? (i := 376) (by decide +kernel)
theorem ab_315 : (Jvm.Cond.fieldLinkNest "Powerwell" (94 : Nat) "Powerwell$Rail" "votes" "[I" "Powerwell") ∈ lw_tbl := List.mem_of_getElem? (i := 378) (by decide +kernel)
theorem ab_317 : (Jvm.Cond.fieldLinkNest "Powerwell" (104 : Nat) "Powerwell$Rail" "level" "I" "Powerwell") ∈ lw_tbl := List.mem_of_getElem? (i := 380) (by decide +kernel)
theorem ab_318 : (Jvm.Cond.fieldLinkNest "Powerwell$Domain" (57 : Nat) "Powerwell$Rail" "level" "I" "Powerwell") ∈ lw_tbl := List.mem_of_getElem? (i := 381) (by decide +kernel)
theorem ab_320 : (Jvm.Cond.fieldLinkNest "Powerwell" (107 : Nat) "Powerwell$Rail" "speed" "I" "Powerwell") ∈ lw_tbl := List.mem_of_getElem? (i := 383) (by decide +kernel)
theorem ab_321 : (Jvm.Cond.fieldLinkNest "Powerwell$Device" (90 : Nat) "Powerwell$Rail" "speed" "I" "Powerwell") ∈ lw_tbl := List.mem_of_getElem? (i := 384) (by decide +kernel)
theorem ab_322 : (Jvm.Cond.fieldLinkNest "Powerwell$Domain" (78 : Nat) "Powerwell$Rail" "speed" "I" "Powerwell") ∈ lw_tbl := List.mem_of_getElem? (i := 385) (by decide +kernel)
theorem ab_325 : (Jvm.Cond.fieldLinkNest "Powerwell" (136 : Nat) "Powerwell$Rail" "isThrottled" "Z" "Powerwell") ∈ lw_tbl := List.mem_of_getElem? (i := 388) (by decide +kernel)
theorem ab_327 : (Jvm.Cond.fieldLinkNest "Powerwell" (141 : Nat) "Powerwell$Rail" "budget" "I" "Powerwell") ∈ lw_tbl := List.mem_of_getElem? (i := 390) (by decide +kernel)
theorem ab_329 : (Jvm.Cond.fieldLinkNest "Powerwell" (144 : Nat) "Powerwell$Rail" "window" "I" "Powerwell") ∈ lw_tbl := List.mem_of_getElem? (i := 392) (by decide +kernel)
theorem ab_409 : (Jvm.Cond.arrayOver (Jvm.ClassFile.FieldType.object "java/lang/Object")) ∈ lw_tbl := List.mem_of_getElem? (i := 472) (by decide +kernel)
theorem ab_436 : (Jvm.Cond.stringRef "Powerwell" (319 : Nat) "no such rail") ∈ lw_tbl := List.mem_of_getElem? (i := 499) (by decide +kernel)
theorem ab_440 : (Jvm.Cond.stringRef "Powerwell" (71 : Nat) "a number is out of range") ∈ lw_tbl := List.mem_of_getElem? (i := 503) (by decide +kernel)
theorem ab_441 : (Jvm.Cond.methodLinkNest "Powerwell" (73 : Nat) ({ cls := "Powerwell$Rail", name := "isBeyondLastPair", desc := "(II)Z" } : Jvm.MethodName) "Powerwell") ∈ lw_tbl := List.mem_of_getElem? (i := 504) (by decide +kernel)
theorem ab_445 : (Jvm.Cond.stringRef "Powerwell" (77 : Nat) "not greater than the pair ahead") ∈ lw_tbl := List.mem_of_getElem? (i := 508) (by decide +kernel)
theorem ab_446 : (Jvm.Cond.stringRef "Powerwell" (82 : Nat) "no more pairs") ∈ lw_tbl := List.mem_of_getElem? (i := 509) (by decide +kernel)
theorem ab_449 : (Jvm.Cond.methodLinkNest "Powerwell" (86 : Nat) ({ cls := "Powerwell$Pair", name := "<init>", desc := "(II)V" } : Jvm.MethodName) "Powerwell") ∈ lw_tbl := List.mem_of_getElem? (i := 512) (by decide +kernel)
theorem ab_454 : (Jvm.Cond.fieldLinkNest "Powerwell$Rail" (51 : Nat) "Powerwell$Pair" "speed" "I" "Powerwell") ∈ lw_tbl := List.mem_of_getElem? (i := 517) (by decide +kernel)
theorem ab_456 : (Jvm.Cond.fieldLinkNest "Powerwell$Rail" (54 : Nat) "Powerwell$Pair" "level" "I" "Powerwell") ∈ lw_tbl := List.mem_of_getElem? (i := 519) (by decide +kernel)
theorem ab_466 : (Jvm.Cond.stringRef "Powerwell" (91 : Nat) "no such user") ∈ lw_tbl := List.mem_of_getElem? (i := 529) (by decide +kernel)
theorem ab_467 : (Jvm.Cond.methodLinkNest "Powerwell" (98 : Nat) ({ cls := "Powerwell$Rail", name := "wish", desc := "()I" } : Jvm.MethodName) "Powerwell") ∈ lw_tbl := List.mem_of_getElem? (i := 530) (by decide +kernel)
theorem ab_484 : (Jvm.Cond.methodLinkNest "Powerwell" (101 : Nat) ({ cls := "Powerwell$Rail", name := "aimedPair", desc := "()I" } : Jvm.MethodName) "Powerwell") ∈ lw_tbl := List.mem_of_getElem? (i := 547) (by decide +kernel)
theorem ab_510 : (Jvm.Cond.stringRef "Powerwell" (321 : Nat) "no such domain") ∈ lw_tbl := List.mem_of_getElem? (i := 573) (by decide +kernel)
theorem ab_511 : (Jvm.Cond.stringRef "Powerwell" (114 : Nat) "no more domains") ∈ lw_tbl := List.mem_of_getElem? (i := 574) (by decide +kernel)
theorem ab_512 : (Jvm.Cond.methodLinkNest "Powerwell" (118 : Nat) ({ cls := "Powerwell$Domain", name := "<init>", desc := "(LPowerwell$Domain;LPowerwell$Rail;Z)V" } : Jvm.MethodName) "Powerwell") ∈ lw_tbl := List.mem_of_getElem? (i := 575) (by decide +kernel)
theorem ab_520 : (Jvm.Cond.fieldLinkNest "Powerwell$Device" (86 : Nat) "Powerwell$Domain" "rail" "LPowerwell$Rail;" "Powerwell") ∈ lw_tbl := List.mem_of_getElem? (i := 583) (by decide +kernel)
theorem ab_523 : (Jvm.Cond.fieldLinkNest "Powerwell" (157 : Nat) "Powerwell$Domain" "devices" "Ljava/util/ArrayList;" "Powerwell") ∈ lw_tbl := List.mem_of_getElem? (i := 586) (by decide +kernel)
theorem ab_526 : (Jvm.Cond.fieldLinkNest "Powerwell" (126 : Nat) "Powerwell$Domain" "warmth" "I" "Powerwell") ∈ lw_tbl := List.mem_of_getElem? (i := 589) (by decide +kernel)
theorem ab_527 : (Jvm.Cond.fieldLinkNest "Powerwell$Rail" (112 : Nat) "Powerwell$Domain" "warmth" "I" "Powerwell") ∈ lw_tbl := List.mem_of_getElem? (i := 590) (by decide +kernel)
theorem ab_529 : (Jvm.Cond.fieldLinkNest "Powerwell" (133 : Nat) "Powerwell$Domain" "trip" "I" "Powerwell") ∈ lw_tbl := List.mem_of_getElem? (i := 592) (by decide +kernel)
theorem ab_530 : (Jvm.Cond.fieldLinkNest "Powerwell$Rail" (115 : Nat) "Powerwell$Domain" "trip" "I" "Powerwell") ∈ lw_tbl := List.mem_of_getElem? (i := 593) (by decide +kernel)
theorem ab_532 : (Jvm.Cond.fieldLinkNest "Powerwell" (129 : Nat) "Powerwell$Domain" "energy" "J" "Powerwell") ∈ lw_tbl := List.mem_of_getElem? (i := 595) (by decide +kernel)
theorem ab_534 : (Jvm.Cond.fieldLinkNest "Powerwell$Rail" (105 : Nat) "Powerwell$Domain" "gained" "I" "Powerwell") ∈ lw_tbl := List.mem_of_getElem? (i := 597) (by decide +kernel)
theorem ab_578 : (Jvm.Cond.methodLinkNest "Powerwell" (147 : Nat) ({ cls := "Powerwell$Rail", name := "isOverBudget", desc := "()Z" } : Jvm.MethodName) "Powerwell") ∈ lw_tbl := List.mem_of_getElem? (i := 641) (by decide +kernel)
theorem ab_583 : (Jvm.Cond.stringRef "Powerwell" (150 : Nat) "no more devices") ∈ lw_tbl := List.mem_of_getElem? (i := 646) (by decide +kernel)
theorem ab_585 : (Jvm.Cond.methodLinkNest "Powerwell" (154 : Nat) ({ cls := "Powerwell$Device", name := "<init>", desc := "(ILPowerwell$Domain;II)V" } : Jvm.MethodName) "Powerwell") ∈ lw_tbl := List.mem_of_getElem? (i := 648) (by decide +kernel)
theorem ab_593 : (Jvm.Cond.methodLinkNest "Powerwell$Device" (29 : Nat) ({ cls := "Powerwell$Idleness", name := "<init>", desc := "(I)V" } : Jvm.MethodName) "Powerwell") ∈ lw_tbl := List.mem_of_getElem? (i := 656) (by decide +kernel)
theorem ab_601 : (Jvm.Cond.fieldLinkNest "Powerwell" (231 : Nat) "Powerwell$Idleness" "depth" "LPowerwell$Depth;" "Powerwell") ∈ lw_tbl := List.mem_of_getElem? (i := 664) (by decide +kernel)
theorem ab_604 : (Jvm.Cond.fieldLinkNest "Powerwell" (238 : Nat) "Powerwell$Idleness" "misses" "I" "Powerwell") ∈ lw_tbl := List.mem_of_getElem? (i := 667) (by decide +kernel)
theorem ab_622 : (Jvm.Cond.fieldLinkNest "Powerwell" (158 : Nat) "Powerwell$Device" "number" "I" "Powerwell") ∈ lw_tbl := List.mem_of_getElem? (i := 685) (by decide +kernel)
theorem ab_624 : (Jvm.Cond.fieldLinkNest "Powerwell" (393 : Nat) "Powerwell$Device" "home" "LPowerwell$Domain;" "Powerwell") ∈ lw_tbl := List.mem_of_getElem? (i := 687) (by decide +kernel)
theorem ab_628 : (Jvm.Cond.fieldLinkNest "Powerwell" (227 : Nat) "Powerwell$Device" "idleness" "LPowerwell$Idleness;" "Powerwell") ∈ lw_tbl := List.mem_of_getElem? (i := 691) (by decide +kernel)
theorem ab_630 : (Jvm.Cond.fieldLinkNest "Powerwell" (188 : Nat) "Powerwell$Device" "suppliers" "Ljava/util/ArrayList;" "Powerwell") ∈ lw_tbl := List.mem_of_getElem? (i := 693) (by decide +kernel)
theorem ab_632 : (Jvm.Cond.fieldLinkNest "Powerwell" (179 : Nat) "Powerwell$Device" "count" "I" "Powerwell") ∈ lw_tbl := List.mem_of_getElem? (i := 695) (by decide +kernel)
theorem ab_634 : (Jvm.Cond.fieldLinkNest "Powerwell" (176 : Nat) "Powerwell$Device" "isAwake" "Z" "Powerwell") ∈ lw_tbl := List.mem_of_getElem? (i := 697) (by decide +kernel)
theorem ab_635 : (Jvm.Cond.fieldLinkNest "Powerwell" (284 : Nat) "Powerwell$Device" "sleepsByChip" "Z" "Powerwell") ∈ lw_tbl := List.mem_of_getElem? (i := 698) (by decide +kernel)
theorem ab_636 : (Jvm.Cond.fieldLinkNest "Powerwell" (338 : Nat) "Powerwell$Device" "delayLeft" "I" "Powerwell") ∈ lw_tbl := List.mem_of_getElem? (i := 699) (by decide +kernel)
theorem ab_638 : (Jvm.Cond.fieldLinkNest "Powerwell$Domain" (54 : Nat) "Powerwell$Device" "register" "I" "Powerwell") ∈ lw_tbl := List.mem_of_getElem? (i := 701) (by decide +kernel)
theorem ab_639 : (Jvm.Cond.fieldLinkNest "Powerwell" (205 : Nat) "Powerwell$Device" "register" "I" "Powerwell") ∈ lw_tbl := List.mem_of_getElem? (i := 702) (by decide +kernel)
theorem ab_641 : (Jvm.Cond.fieldLinkNest "Powerwell" (208 : Nat) "Powerwell$Device" "lastWritten" "I" "Powerwell") ∈ lw_tbl := List.mem_of_getElem? (i := 704) (by decide +kernel)
theorem ab_643 : (Jvm.Cond.fieldLinkNest "Powerwell" (244 : Nat) "Powerwell$Device" "unitsLeft" "I" "Powerwell") ∈ lw_tbl := List.mem_of_getElem? (i := 706) (by decide +kernel)
theorem ab_645 : (Jvm.Cond.fieldLinkNest "Powerwell$Domain" (75 : Nat) "Powerwell$Device" "hasWorked" "Z" "Powerwell") ∈ lw_tbl := List.mem_of_getElem? (i := 708) (by decide +kernel)
theorem ab_683 : (Jvm.Cond.stringRef "Powerwell" (323 : Nat) "no such device") ∈ lw_tbl := List.mem_of_getElem? (i := 746) (by decide +kernel)
theorem ab_684 : (Jvm.Cond.stringRef "Powerwell" (165 : Nat) "the supplier is not earlier") ∈ lw_tbl := List.mem_of_getElem? (i := 747) (by decide +kernel)
theorem ab_685 : (Jvm.Cond.methodLinkNest "Powerwell" (167 : Nat) ({ cls := "Powerwell$Device", name := "hasSupplier", desc := "(LPowerwell$Device;)Z" } : Jvm.MethodName) "Powerwell") ∈ lw_tbl := List.mem_of_getElem? (i := 748) (by decide +kernel)
theorem ab_700 : (Jvm.Cond.stringRef "Powerwell" (173 : Nat) "it needs it already") ∈ lw_tbl := List.mem_of_getElem? (i := 763) (by decide +kernel)
theorem ab_707 : (Jvm.Cond.stringRef "Powerwell" (182 : Nat) "it is not asleep with the count 0") ∈ lw_tbl := List.mem_of_getElem? (i := 770) (by decide +kernel)
theorem ab_708 : (Jvm.Cond.methodLinkNest "Powerwell" (184 : Nat) ({ cls := "Powerwell$Device", name := "addSupplier", desc := "(LPowerwell$Device;)V" } : Jvm.MethodName) "Powerwell") ∈ lw_tbl := List.mem_of_getElem? (i := 771) (by decide +kernel)
theorem ab_962 : (Jvm.Cond.stringRef "Powerwell" (327 : Nat) "the chip sleeps") ∈ lw_tbl := List.mem_of_getElem? (i := 1025) (by decide +kernel)
theorem ab_967 : (Jvm.Cond.methodLinkNest "Powerwell" (331 : Nat) ({ cls := "Powerwell$Device", name := "wakeUp", desc := "(I)V" } : Jvm.MethodName) "Powerwell") ∈ lw_tbl := List.mem_of_getElem? (i := 1030) (by decide +kernel)
theorem ab_971 : (Jvm.Cond.methodLinkNest "Powerwell$Device" (61 : Nat) ({ cls := "Powerwell$Domain", name := "addUse", desc := "()V" } : Jvm.MethodName) "Powerwell") ∈ lw_tbl := List.mem_of_getElem? (i := 1034) (by decide +kernel)
theorem ab_975 : (Jvm.Cond.methodLinkNest "Powerwell$Device" (66 : Nat) ({ cls := "Powerwell$Idleness", name := "endStay", desc := "(I)V" } : Jvm.MethodName) "Powerwell") ∈ lw_tbl := List.mem_of_getElem? (i := 1038) (by decide +kernel)
theorem ab_983 : (Jvm.Cond.methodLinkNest "Powerwell$Idleness" (61 : Nat) ({ cls := "Powerwell", name := "putFirst", desc := "([JJ)V" } : Jvm.MethodName) "Powerwell") ∈ lw_tbl := List.mem_of_getElem? (i := 1046) (by decide +kernel)
theorem ab_991 : (Jvm.Cond.stringRef "Powerwell" (197 : Nat) "its count is 0") ∈ lw_tbl := List.mem_of_getElem? (i := 1054) (by decide +kernel)
theorem ab_1000 : (Jvm.Cond.methodLinkNest "Powerwell" (287 : Nat) ({ cls := "Powerwell$Device", name := "fallAsleep", desc := "(ILjava/util/ArrayList;)V" } : Jvm.MethodName) "Powerwell") ∈ lw_tbl := List.mem_of_getElem? (i := 1063) (by decide +kernel)
theorem ab_1004 : (Jvm.Cond.methodLinkNest "Powerwell$Device" (69 : Nat) ({ cls := "Powerwell$Domain", name := "dropUse", desc := "()V" } : Jvm.MethodName) "Powerwell") ∈ lw_tbl := List.mem_of_getElem? (i := 1067) (by decide +kernel)
theorem ab_1015 : (Jvm.Cond.methodLinkNest "Powerwell$Device" (72 : Nat) ({ cls := "Powerwell$Idleness", name := "beginStay", desc := "(ILjava/util/ArrayList;)V" } : Jvm.MethodName) "Powerwell") ∈ lw_tbl := List.mem_of_getElem? (i := 1078) (by decide +kernel)
theorem ab_1045 : (Jvm.Cond.stringRef "Powerwell" (329 : Nat) "it is asleep") ∈ lw_tbl := List.mem_of_getElem? (i := 1108) (by decide +kernel)
theorem ab_1064 : (Jvm.Cond.stringRef "Powerwell" (220 : Nat) "less than the depth ahead") ∈ lw_tbl := List.mem_of_getElem? (i := 1127) (by decide +kernel)
theorem ab_1065 : (Jvm.Cond.stringRef "Powerwell" (222 : Nat) "no more depths") ∈ lw_tbl := List.mem_of_getElem? (i := 1128) (by decide +kernel)
theorem ab_1071 : (Jvm.Cond.fieldLinkNest "Powerwell" (237 : Nat) "Powerwell$Depth" "number" "I" "Powerwell") ∈ lw_tbl := List.mem_of_getElem? (i := 1134) (by decide +kernel)
theorem ab_1073 : (Jvm.Cond.fieldLinkNest "Powerwell$Idleness" (51 : Nat) "Powerwell$Depth" "cost" "I" "Powerwell") ∈ lw_tbl := List.mem_of_getElem? (i := 1136) (by decide +kernel)
theorem ab_1075 : (Jvm.Cond.fieldLinkNest "Powerwell$Idleness" (48 : Nat) "Powerwell$Depth" "least" "I" "Powerwell") ∈ lw_tbl := List.mem_of_getElem? (i := 1138) (by decide +kernel)
theorem ab_1095 : (Jvm.Cond.methodLinkNest "Powerwell" (241 : Nat) ({ cls := "Powerwell$Idleness", name := "meanStay", desc := "()I" } : Jvm.MethodName) "Powerwell") ∈ lw_tbl := List.mem_of_getElem? (i := 1158) (by decide +kernel)
theorem ab_1112 : (Jvm.Cond.methodLinkNest "Powerwell" (344 : Nat) ({ cls := "Powerwell$Rail", name := "riseAndSpeed", desc := "(Z)V" } : Jvm.MethodName) "Powerwell") ∈ lw_tbl := List.mem_of_getElem? (i := 1175) (by decide +kernel)
theorem ab_1126 : (Jvm.Cond.methodLinkNest "Powerwell$Rail" (89 : Nat) ({ cls := "Powerwell$Domain", name := "isUsed", desc := "()Z" } : Jvm.MethodName) "Powerwell") ∈ lw_tbl := List.mem_of_getElem? (i := 1189) (by decide +kernel)
theorem ab_1131 : (Jvm.Cond.methodLinkNest "Powerwell" (348 : Nat) ({ cls := "Powerwell$Device", name := "doWork", desc := "()V" } : Jvm.MethodName) "Powerwell") ∈ lw_tbl := List.mem_of_getElem? (i := 1194) (by decide +kernel)
theorem ab_1135 : (Jvm.Cond.methodLinkNest "Powerwell$Device" (79 : Nat) ({ cls := "Powerwell$Idleness", name := "passCost", desc := "()Z" } : Jvm.MethodName) "Powerwell") ∈ lw_tbl := List.mem_of_getElem? (i := 1198) (by decide +kernel)
theorem ab_1144 : (Jvm.Cond.methodLinkNest "Powerwell" (366 : Nat) ({ cls := "Powerwell$Domain", name := "gainEnergy", desc := "()V" } : Jvm.MethodName) "Powerwell") ∈ lw_tbl := List.mem_of_getElem? (i := 1207) (by decide +kernel)
theorem ab_1152 : (Jvm.Cond.methodLinkNest "Powerwell" (369 : Nat) ({ cls := "Powerwell$Rail", name := "energyOfTick", desc := "()J" } : Jvm.MethodName) "Powerwell") ∈ lw_tbl := List.mem_of_getElem? (i := 1215) (by decide +kernel)
theorem ab_1156 : (Jvm.Cond.methodLinkNest "Powerwell" (373 : Nat) ({ cls := "Powerwell$Rail", name := "remember", desc := "(J)V" } : Jvm.MethodName) "Powerwell") ∈ lw_tbl := List.mem_of_getElem? (i := 1219) (by decide +kernel)
theorem ab_1160 : (Jvm.Cond.methodLinkNest "Powerwell$Rail" (108 : Nat) ({ cls := "Powerwell", name := "putFirst", desc := "([JJ)V" } : Jvm.MethodName) "Powerwell") ∈ lw_tbl := List.mem_of_getElem? (i := 1223) (by decide +kernel)
theorem ab_1165 : (Jvm.Cond.methodLinkNest "Powerwell" (381 : Nat) ({ cls := "Powerwell$Rail", name := "sumOfVotes", desc := "()I" } : Jvm.MethodName) "Powerwell") ∈ lw_tbl := List.mem_of_getElem? (i := 1228) (by decide +kernel)
theorem ab_1170 : (Jvm.Cond.methodLinkNest "Powerwell" (384 : Nat) ({ cls := "Powerwell$Domain", name := "reckonFlow", desc := "()V" } : Jvm.MethodName) "Powerwell") ∈ lw_tbl := List.mem_of_getElem? (i := 1233) (by decide +kernel)
theorem ab_1174 : (Jvm.Cond.methodLinkNest "Powerwell" (387 : Nat) ({ cls := "Powerwell$Domain", name := "flowOut", desc := "()V" } : Jvm.MethodName) "Powerwell") ∈ lw_tbl := List.mem_of_getElem? (i := 1237) (by decide +kernel)
theorem ab_1178 : (Jvm.Cond.methodLinkNest "Powerwell" (357 : Nat) ({ cls := "Powerwell$Rail", name := "lookAtTrips", desc := "()V" } : Jvm.MethodName) "Powerwell") ∈ lw_tbl := List.mem_of_getElem? (i := 1241) (by decide +kernel)
theorem ab_1182 : (Jvm.Cond.methodLinkNest "Powerwell" (360 : Nat) ({ cls := "Powerwell$Rail", name := "fall", desc := "(Z)V" } : Jvm.MethodName) "Powerwell") ∈ lw_tbl := List.mem_of_getElem? (i := 1245) (by decide +kernel)
theorem ab_1190 : (Jvm.Cond.methodLinkNest "Powerwell" (390 : Nat) ({ cls := "Powerwell$Device", name := "isIdling", desc := "()Z" } : Jvm.MethodName) "Powerwell") ∈ lw_tbl := List.mem_of_getElem? (i := 1253) (by decide +kernel)
theorem ab_1206 : (Jvm.Cond.stringRef "Powerwell" (256 : Nat) "no more sources") ∈ lw_tbl := List.mem_of_getElem? (i := 1269) (by decide +kernel)
theorem ab_1209 : (Jvm.Cond.methodLinkNest "Powerwell" (260 : Nat) ({ cls := "Powerwell$Source", name := "<init>", desc := "()V" } : Jvm.MethodName) "Powerwell") ∈ lw_tbl := List.mem_of_getElem? (i := 1272) (by decide +kernel)
theorem ab_1213 : (Jvm.Cond.fieldLinkNest "Powerwell" (265 : Nat) "Powerwell$Source" "isArmed" "Z" "Powerwell") ∈ lw_tbl := List.mem_of_getElem? (i := 1276) (by decide +kernel)
theorem ab_1215 : (Jvm.Cond.fieldLinkNest "Powerwell" (271 : Nat) "Powerwell$Source" "isMasked" "Z" "Powerwell") ∈ lw_tbl := List.mem_of_getElem? (i := 1278) (by decide +kernel)
theorem ab_1217 : (Jvm.Cond.fieldLinkNest "Powerwell" (268 : Nat) "Powerwell$Source" "hasWake" "Z" "Powerwell") ∈ lw_tbl := List.mem_of_getElem? (i := 1280) (by decide +kernel)
theorem ab_1233 : (Jvm.Cond.stringRef "Powerwell" (325 : Nat) "no such source") ∈ lw_tbl := List.mem_of_getElem? (i := 1296) (by decide +kernel)
theorem ab_1242 : (Jvm.Cond.methodLinkNest "Powerwell" (278 : Nat) ({ cls := "Powerwell$Source", name := "isPending", desc := "()Z" } : Jvm.MethodName) "Powerwell") ∈ lw_tbl := List.mem_of_getElem? (i := 1305) (by decide +kernel)
theorem ab_1301 : (Jvm.Cond.stringRef "Powerwell" (298 : Nat) "no domains") ∈ lw_tbl := List.mem_of_getElem? (i := 1364) (by decide +kernel)
theorem rc_0 : rn_ck 0 RJx4a65c TJx4a65c 3 tyJx4a65c := ⟨rfl, rn_all_of (by decide +kernel), tyJx4a65c_ok, nmJx4a65c⟩
theorem rc_1 : rn_ck 1 RX0 TX0 3 tyX0 := ⟨rfl, rn_all_of (by decide +kernel), tyX0_ok, nmX0⟩
theorem rc_2 : rn_ck 2 RX1 TX1 14 tyX1 := ⟨rfl, rn_all_of (by decide +kernel), tyX1_ok, nmX1⟩
theorem rc_3 : rn_ck 3 RX2 TX2 10 tyX2 := ⟨rfl, rn_all_of (by decide +kernel), tyX2_ok, nmX2⟩
theorem rc_4 : rn_ck 4 RX3 TX3 7 tyX3 := ⟨rfl, rn_all_of (by decide +kernel), tyX3_ok, nmX3⟩
theorem rc_5 : rn_ck 5 RX4 TX4 2 tyX4 := ⟨rfl, rn_all_of (by decide +kernel), tyX4_ok, nmX4⟩
theorem rc_6 : rn_ck 6 RX5 TX5 11 tyX5 := ⟨rfl, rn_all_of (by decide +kernel), tyX5_ok, nmX5⟩
theorem rc_7 : rn_ck 7 RX6 TX6 3 tyX6 := ⟨rfl, rn_all_of (by decide +kernel), tyX6_ok, nmX6⟩
theorem rc_8 : rn_ck 8 RX7 TX7 10 tyX7 := ⟨rfl, rn_all_of (by decide +kernel), tyX7_ok, nmX7⟩
theorem rc_cast : ∀ r ∈ rn_cl, rn_wok (.castable r.1 "java/lang/Object") = true := List.all_eq_true.mp (by decide +kernel)
theorem ta_Powerwell_175_3 : (vx_atS "Powerwell" 175 (rn_xn 3) ["java/lang/RuntimeException", "java/lang/Exception"]).all rn_wok = true := by decide +kernel
theorem ta_Powerwell_300_5 : (vx_atS "Powerwell" 300 (rn_xn 5) ["java/lang/RuntimeException", "java/lang/Exception"]).all rn_wok = true := by decide +kernel
theorem ta_Powerwell_40_1 : (vx_atS "Powerwell" 40 (rn_xn 1) ["java/lang/RuntimeException", "java/lang/Exception"]).all rn_wok = true := by decide +kernel
theorem ta_Powerwell_57_2 : (vx_atS "Powerwell" 57 (rn_xn 2) ["java/lang/RuntimeException", "java/lang/Exception"]).all rn_wok = true := by decide +kernel
theorem ta_Powerwell_93_0 : (vx_atS "Powerwell" 93 (rn_xn 0) ["java/lang/RuntimeException", "java/lang/Exception"]).all rn_wok = true := by decide +kernel
noncomputable def MMl : List rn_D := [(yJx4a65c_get_915e3, cJx4a65c_get_915e3, 2, some (Jvm.ClassFile.FieldType.object "java/lang/Object"), [], 0, 0),
  (yJx4a65c_size_8abf5, cJx4a65c_size_8abf5, 1, some Jvm.ClassFile.FieldType.int, [], 0, 0),
  (yJx4a65c_elementData_915e3, cJx4a65c_elementData_915e3, 2, some (Jvm.ClassFile.FieldType.object "java/lang/Object"), [], 0, 0),
  (yJ15_checkIndex_7cf53, cJ15_checkIndex_7cf53, 2, some Jvm.ClassFile.FieldType.int, [], 0, 0),
  (yJ3_checkIndex_8e157, cJ3_checkIndex_8e157, 3, some Jvm.ClassFile.FieldType.int, [], 0, 0),
  (yL_ask, cL_ask, 4, some Jvm.ClassFile.FieldType.int, [(0, 243, 456, 73), (244, 257, 456, 73), (258, 271, 456, 73), (272, 279, 456, 73), (280, 287, 456, 73), (288, 295, 456, 73), (296, 318, 456, 73), (319, 334, 456, 73), (335, 342, 456, 73), (343, 353, 456, 73), (354, 369, 456, 73), (370, 391, 456, 73), (392, 405, 456, 73), (406, 416, 456, 73), (417, 424, 456, 73), (425, 432, 456, 73), (433, 448, 456, 73), (449, 455, 456, 73), (0, 243, 460, 76), (244, 257, 460, 76), (258, 271, 460, 76), (272, 279, 460, 76), (280, 287, 460, 76), (288, 295, 460, 76), (296, 318, 460, 76), (319, 334, 460, 76), (335, 342, 460, 76), (343, 353, 460, 76), (354, 369, 460, 76), (370, 391, 460, 76), (392, 405, 460, 76), (406, 416, 460, 76), (417, 424, 460, 76), (425, 432, 460, 76), (433, 448, 460, 76), (449, 455, 460, 76), (0, 243, 464, 79), (244, 257, 464, 79), (258, 271, 464, 79), (272, 279, 464, 79), (280, 287, 464, 79), (288, 295, 464, 79), (296, 318, 464, 79), (319, 334, 464, 79), (335, 342, 464, 79), (343, 353, 464, 79), (354, 369, 464, 79), (370, 391, 464, 79), (392, 405, 464, 79), (406, 416, 464, 79), (417, 424, 464, 79), (425, 432, 464, 79), (433, 448, 464, 79), (449, 455, 464, 79), (0, 243, 468, 82), (244, 257, 468, 82), (258, 271, 468, 82), (272, 279, 468, 82), (280, 287, 468, 82), (288, 295, 468, 82), (296, 318, 468, 82), (319, 334, 468, 82), (335, 342, 468, 82), (343, 353, 468, 82), (354, 369, 468, 82), (370, 391, 468, 82), (392, 405, 468, 82), (406, 416, 468, 82), (417, 424, 468, 82), (425, 432, 468, 82), (433, 448, 468, 82), (449, 455, 468, 82), (0, 243, 472, 85), (244, 257, 472, 85), (258, 271, 472, 85), (272, 279, 472, 85), (280, 287, 472, 85), (288, 295, 472, 85), (296, 318, 472, 85), (319, 334, 472, 85), (335, 342, 472, 85), (343, 353, 472, 85), (354, 369, 472, 85), (370, 391, 472, 85), (392, 405, 472, 85), (406, 416, 472, 85), (417, 424, 472, 85), (425, 432, 472, 85), (433, 448, 472, 85), (449, 455, 472, 85)], 9, 85),
  (yL_asked, cL_asked, 3, some Jvm.ClassFile.FieldType.int, [], 5, 31),
  (yX7_deviceAt, cX7_deviceAt, 2, some (Jvm.ClassFile.FieldType.object "Powerwell$Device"), [], 1, 6),
  (yX7_sourceAt, cX7_sourceAt, 2, some (Jvm.ClassFile.FieldType.object "Powerwell$Source"), [], 1, 6),
  (yX7_reachableAt, cX7_reachableAt, 3, some (Jvm.ClassFile.FieldType.object "Powerwell$Device"), [], 3, 18),
  (yX7_refuseAsleep, cX7_refuseAsleep, 1, none, [], 1, 6),
  (yX7_isAwake, cX7_isAwake, 2, some Jvm.ClassFile.FieldType.boolean, [], 1, 6),
  (yX7_read, cX7_read, 2, some Jvm.ClassFile.FieldType.int, [], 3, 18),
  (yX7_get, cX7_get, 3, some Jvm.ClassFile.FieldType.int, [], 2, 12),
  (yX7_put, cX7_put, 3, some Jvm.ClassFile.FieldType.int, [], 3, 18),
  (yX7_write, cX7_write, 5, some Jvm.ClassFile.FieldType.int, [], 3, 18),
  (yX7_work, cX7_work, 4, some Jvm.ClassFile.FieldType.int, [], 3, 18),
  (yX7_isOutside, cX7_isOutside, 3, some Jvm.ClassFile.FieldType.boolean, [], 0, 0),
  (yX7_isOn, cX7_isOn, 2, some Jvm.ClassFile.FieldType.boolean, [], 1, 6),
  (yX7_domainAt, cX7_domainAt, 2, some (Jvm.ClassFile.FieldType.object "Powerwell$Domain"), [], 1, 6),
  (yX2_isUsed, cX2_isUsed, 1, some Jvm.ClassFile.FieldType.boolean, [], 0, 0),
  (yX7_cause, cX7_cause, 1, some Jvm.ClassFile.FieldType.int, [], 1, 6),
  (yX7_sleeps, cX7_sleeps, 1, some Jvm.ClassFile.FieldType.boolean, [], 0, 0),
  (yL_stand, cL_stand, 6, some Jvm.ClassFile.FieldType.boolean, [], 260, 2288),
  (yX6_isPending, cX6_isPending, 1, some Jvm.ClassFile.FieldType.boolean, [], 0, 0),
  (yX7_arm, cX7_arm, 5, some Jvm.ClassFile.FieldType.boolean, [], 1, 6),
  (yX7_mask, cX7_mask, 4, some Jvm.ClassFile.FieldType.boolean, [], 1, 6),
  (yX7_wake, cX7_wake, 3, some Jvm.ClassFile.FieldType.boolean, [], 1, 6),
  (yX7_wakeChipBy, cX7_wakeChipBy, 5, some Jvm.ClassFile.FieldType.boolean, [], 0, 0),
  (yX7_sleep, cX7_sleep, 3, some Jvm.ClassFile.FieldType.int, [], 1, 6),
  (yX7_tick, cX7_tick, 3, some Jvm.ClassFile.FieldType.int, [], 1, 6),
  (yX7_passTick, cX7_passTick, 3, none, [], 0, 0),
  (yX5_riseAndSpeed, cX5_riseAndSpeed, 3, none, [], 0, 0),
  (yX5_aimedLevel, cX5_aimedLevel, 3, some Jvm.ClassFile.FieldType.int, [], 0, 0),
  (yX5_aimedPair, cX5_aimedPair, 4, some Jvm.ClassFile.FieldType.int, [], 0, 0),
  (yX5_isOverBudget, cX5_isOverBudget, 4, some Jvm.ClassFile.FieldType.boolean, [], 0, 0),
  (yX5_wish, cX5_wish, 1, some Jvm.ClassFile.FieldType.int, [], 0, 0),
  (yX5_greatestVote, cX5_greatestVote, 6, some Jvm.ClassFile.FieldType.int, [], 0, 0),
  (yX5_isUsed, cX5_isUsed, 2, some Jvm.ClassFile.FieldType.boolean, [], 0, 0),
  (yX5_reachedSpeed, cX5_reachedSpeed, 5, some Jvm.ClassFile.FieldType.int, [], 0, 0),
  (yX1_doWork, cX1_doWork, 2, none, [], 0, 0),
  (yX3_passCost, cX3_passCost, 1, some Jvm.ClassFile.FieldType.boolean, [], 0, 0),
  (yX7_reckonEnergy, cX7_reckonEnergy, 5, none, [], 0, 0),
  (yX2_gainEnergy, cX2_gainEnergy, 1, none, [], 0, 0),
  (yX2_energyOfWork, cX2_energyOfWork, 3, some Jvm.ClassFile.FieldType.int, [], 0, 0),
  (yX5_energyOfTick, cX5_energyOfTick, 4, some Jvm.ClassFile.FieldType.long, [], 0, 0),
  (yX5_remember, cX5_remember, 3, none, [], 0, 0),
  (yX7_putFirst, cX7_putFirst, 4, none, [], 0, 0),
  (yX7_claimEnergy, cX7_claimEnergy, 12, none, [], 0, 0),
  (yX5_sumOfVotes, cX5_sumOfVotes, 6, some Jvm.ClassFile.FieldType.int, [], 0, 0),
  (yX7_letWarmthFlow, cX7_letWarmthFlow, 2, none, [], 0, 0),
  (yX2_reckonFlow, cX2_reckonFlow, 1, none, [], 0, 0),
  (yX2_flowOut, cX2_flowOut, 1, none, [], 0, 0),
  (yX5_lookAtTrips, cX5_lookAtTrips, 4, none, [], 0, 0),
  (yX5_fall, cX5_fall, 3, none, [], 0, 0),
  (yX7_passDelays, cX7_passDelays, 3, none, [], 0, 0),
  (yX1_isIdling, cX1_isIdling, 1, some Jvm.ClassFile.FieldType.boolean, [], 0, 0),
  (yX1_wakeUp, cX1_wakeUp, 2, none, [], 0, 0),
  (yX2_addUse, cX2_addUse, 2, none, [], 0, 0),
  (yX3_endStay, cX3_endStay, 2, none, [], 0, 0),
  (yX3_addStay, cX3_addStay, 2, none, [], 0, 0),
  (yX1_fallAsleep, cX1_fallAsleep, 3, none, [], 0, 0),
  (yX2_dropUse, cX2_dropUse, 2, none, [], 0, 0),
  (yX2_loseRegisters, cX2_loseRegisters, 2, none, [], 0, 0),
  (yX3_beginStay, cX3_beginStay, 3, none, [], 0, 0),
  (yX3_deepest, cX3_deepest, 5, some (Jvm.ClassFile.FieldType.object "Powerwell$Depth"), [], 0, 0),
  (yX3_meanStay, cX3_meanStay, 4, some Jvm.ClassFile.FieldType.int, [], 0, 0),
  (yL_at, cL_at, 2, some Jvm.ClassFile.FieldType.int, [], 0, 0),
  (yL_some, cL_some, 3, some Jvm.ClassFile.FieldType.int, [], 0, 0),
  (yL_sleeping, cL_sleeping, 19, some Jvm.ClassFile.FieldType.boolean, [], 300000, 3000000),
  (yL_law, cL_law, 2, some .boolean, [], 400000, 4000000),
  (yL_full, cL_full, 2, some Jvm.ClassFile.FieldType.boolean, [], 660, 5700),
  (yL_hasNone, cL_hasNone, 4, some Jvm.ClassFile.FieldType.boolean, [(0, 18, 19, 153)], 2, 12),
  (yX7_init, cX7_init, 1, none, [], 6, 35),
  (yJx4a65c_init_da8c8, cJx4a65c_init_da8c8, 1, none, [], 0, 0),
  (yJxc12de_init_da8c8, cJxc12de_init_da8c8, 1, none, [], 0, 0),
  (yJxa1e45_init_da8c8, cJxa1e45_init_da8c8, 1, none, [], 0, 0),
  (yJx4a65c_add_9ea2d, cJx4a65c_add_9ea2d, 2, some Jvm.ClassFile.FieldType.boolean, [], 1, 10),
  (yJx4a65c_add_72be8, cJx4a65c_add_72be8, 4, none, [], 1, 10),
  (yJx4a65c_grow_d5877, cJx4a65c_grow_d5877, 1, some (Jvm.ClassFile.FieldType.array (Jvm.ClassFile.FieldType.object "java/lang/Object")), [], 1, 10),
  (yJx4a65c_grow_92f84, cJx4a65c_grow_92f84, 4, some (Jvm.ClassFile.FieldType.array (Jvm.ClassFile.FieldType.object "java/lang/Object")), [], 1, 10),
  (yJx4a65c_isEmpty_aae02, cJx4a65c_isEmpty_aae02, 1, some Jvm.ClassFile.FieldType.boolean, [], 0, 0),
  (yX7_rail, cX7_rail, 3, some Jvm.ClassFile.FieldType.int, [], 9, 85),
  (yX5_init, cX5_init, 3, none, [], 4, 46),
  (yX7_railAt, cX7_railAt, 2, some (Jvm.ClassFile.FieldType.object "Powerwell$Rail"), [], 1, 6),
  (yX7_pair, cX7_pair, 5, some Jvm.ClassFile.FieldType.int, [], 6, 36),
  (yX5_isBeyondLastPair, cX5_isBeyondLastPair, 4, some Jvm.ClassFile.FieldType.boolean, [], 0, 0),
  (yX4_init, cX4_init, 3, none, [], 0, 0),
  (yX7_vote, cX7_vote, 5, some Jvm.ClassFile.FieldType.int, [], 3, 18),
  (yX7_aim, cX7_aim, 2, some Jvm.ClassFile.FieldType.int, [], 1, 6),
  (yX7_level, cX7_level, 2, some Jvm.ClassFile.FieldType.int, [], 1, 6),
  (yX7_speed, cX7_speed, 2, some Jvm.ClassFile.FieldType.int, [], 1, 6),
  (yX7_domain, cX7_domain, 7, some Jvm.ClassFile.FieldType.int, [], 7, 51),
  (yX2_init, cX2_init, 4, none, [], 1, 3),
  (yX7_warmth, cX7_warmth, 2, some Jvm.ClassFile.FieldType.int, [], 1, 6),
  (yX7_energy, cX7_energy, 2, some Jvm.ClassFile.FieldType.long, [], 1, 6),
  (yX7_trip, cX7_trip, 5, some Jvm.ClassFile.FieldType.int, [], 2, 12),
  (yX7_isThrottled, cX7_isThrottled, 2, some Jvm.ClassFile.FieldType.boolean, [], 1, 6),
  (yX7_budget, cX7_budget, 5, some Jvm.ClassFile.FieldType.boolean, [], 2, 12),
  (yX7_device, cX7_device, 6, some Jvm.ClassFile.FieldType.int, [], 9, 82),
  (yX1_init, cX1_init, 5, none, [], 3, 30),
  (yX3_init, cX3_init, 2, none, [], 1, 20),
  (yX7_need, cX7_need, 5, some Jvm.ClassFile.FieldType.int, [], 7, 46),
  (yX1_hasSupplier, cX1_hasSupplier, 3, some Jvm.ClassFile.FieldType.boolean, [], 0, 0),
  (yX1_addSupplier, cX1_addSupplier, 3, none, [], 2, 16),
  (yJx4a65c_add_7a177, cJx4a65c_add_7a177, 5, none, [], 2, 16),
  (yJx4a65c_rangeCheckForAdd_d00df, cJx4a65c_rangeCheckForAdd_d00df, 2, none, [], 1, 6),
  (yX7_take, cX7_take, 3, none, [], 0, 0),
  (yX7_raw, cX7_raw, 2, some Jvm.ClassFile.FieldType.int, [], 1, 6),
  (yX7_depth, cX7_depth, 4, some Jvm.ClassFile.FieldType.int, [], 5, 31),
  (yX7_depthOf, cX7_depthOf, 3, some Jvm.ClassFile.FieldType.int, [], 1, 6),
  (yX7_misses, cX7_misses, 2, some Jvm.ClassFile.FieldType.int, [], 1, 6),
  (yX7_guess, cX7_guess, 2, some Jvm.ClassFile.FieldType.int, [], 1, 6),
  (yX7_left, cX7_left, 2, some Jvm.ClassFile.FieldType.int, [], 1, 6),
  (yX7_claimed, cX7_claimed, 2, some Jvm.ClassFile.FieldType.long, [], 1, 6),
  (yX7_source, cX7_source, 1, some Jvm.ClassFile.FieldType.int, [], 3, 19),
  (yX6_init, cX6_init, 1, none, [], 0, 0),
  (yX7_onShare, cX7_onShare, 4, some Jvm.ClassFile.FieldType.float, [], 1, 6),
  (yX7_meanWarmth, cX7_meanWarmth, 5, some Jvm.ClassFile.FieldType.double, [], 1, 6),
  (yX7_checksum, cX7_checksum, 5, some Jvm.ClassFile.FieldType.long, [], 0, 0),
  (yX7_isTrue, cX7_isTrue, 1, some Jvm.ClassFile.FieldType.boolean, [], 0, 0),
  (yX7_areRegistersKept, cX7_areRegistersKept, 3, some Jvm.ClassFile.FieldType.boolean, [], 0, 0),
  (yX7_areUsedDomainsOn, cX7_areUsedDomainsOn, 3, some Jvm.ClassFile.FieldType.boolean, [], 0, 0),
  (yX2_isUsedUpward, cX2_isUsedUpward, 2, some Jvm.ClassFile.FieldType.boolean, [], 0, 0),
  (yX7_areClaimsAllEnergy, cX7_areClaimsAllEnergy, 4, some Jvm.ClassFile.FieldType.boolean, [], 0, 0),
  (yX7_areLevelsBounded, cX7_areLevelsBounded, 3, some Jvm.ClassFile.FieldType.boolean, [], 0, 0),
  (yX5_greatestLevel, cX5_greatestLevel, 1, some Jvm.ClassFile.FieldType.int, [], 0, 0),
  (yL_sleeping, cL_sleeping, 19, some Jvm.ClassFile.FieldType.boolean, [], 300000, 3000000),
  (yL_sleeping, cL_sleeping, 19, some Jvm.ClassFile.FieldType.boolean, [], 300000, 3000000),
  (yL_sleeping, cL_sleeping, 19, some Jvm.ClassFile.FieldType.boolean, [], 300000, 3000000),
  (yL_law, cL_law, 2, some .boolean, [], 400000, 4000000),
  (yL_sleeping, cL_sleeping, 19, some Jvm.ClassFile.FieldType.boolean, [], 300000, 3000000)]
noncomputable def MM (mu : Nat) : rn_D := MMl.getD mu (yJx4a65c_get_915e3, cJx4a65c_get_915e3, 0, none, [], 0, 0)
theorem cw_0 : rn_cw "" 0 (MM 0) 1 := ⟨⟨by decide +kernel, by decide +kernel, by decide +kernel⟩, by decide +kernel, aw_4⟩
theorem cw_1 : rn_cw "" 0 (MM 1) 0 := ⟨⟨by decide +kernel, by decide +kernel, by decide +kernel⟩, by decide +kernel, aw_4⟩
theorem cw_2 : rn_cw "" 0 (MM 2) 1 := ⟨⟨by decide +kernel, by decide +kernel, by decide +kernel⟩, by decide +kernel, aw_4⟩
theorem cw_3 : rn_cw "" 0 (MM 3) 2 := ⟨⟨by decide +kernel, by decide +kernel, by decide +kernel⟩, by decide +kernel, aw_10⟩
theorem cw_4 : rn_cw "" 0 (MM 4) 3 := ⟨⟨by decide +kernel, by decide +kernel, by decide +kernel⟩, by decide +kernel, aw_11⟩
theorem cw_5 : rn_cw "" 0 (MM 5) 3 := ⟨⟨by decide +kernel, by decide +kernel, by decide +kernel⟩, by decide +kernel, aw_0⟩
theorem cw_6 : rn_cw "" 0 (MM 6) 3 := ⟨⟨by decide +kernel, by decide +kernel, by decide +kernel⟩, by decide +kernel, aw_0⟩
theorem cw_7 : rn_cw "" 0 (MM 7) 1 := ⟨⟨by decide +kernel, by decide +kernel, by decide +kernel⟩, by decide +kernel, aw_1⟩
theorem cw_8 : rn_cw "" 0 (MM 8) 1 := ⟨⟨by decide +kernel, by decide +kernel, by decide +kernel⟩, by decide +kernel, aw_1⟩
theorem cw_9 : rn_cw "" 0 (MM 9) 1 := ⟨⟨by decide +kernel, by decide +kernel, by decide +kernel⟩, by decide +kernel, aw_1⟩
theorem cw_10 : rn_cw "" 0 (MM 10) 0 := ⟨⟨by decide +kernel, by decide +kernel, by decide +kernel⟩, by decide +kernel, aw_1⟩
theorem cw_11 : rn_cw "" 0 (MM 11) 1 := ⟨⟨by decide +kernel, by decide +kernel, by decide +kernel⟩, by decide +kernel, aw_1⟩
theorem cw_12 : rn_cw "" 0 (MM 12) 1 := ⟨⟨by decide +kernel, by decide +kernel, by decide +kernel⟩, by decide +kernel, aw_1⟩
theorem cw_13 : rn_cw "" 0 (MM 13) 1 := ⟨⟨by decide +kernel, by decide +kernel, by decide +kernel⟩, by decide +kernel, aw_1⟩
theorem cw_14 : rn_cw "" 0 (MM 14) 1 := ⟨⟨by decide +kernel, by decide +kernel, by decide +kernel⟩, by decide +kernel, aw_1⟩
theorem cw_15 : rn_cw "" 0 (MM 15) 2 := ⟨⟨by decide +kernel, by decide +kernel, by decide +kernel⟩, by decide +kernel, aw_1⟩
theorem cw_16 : rn_cw "" 0 (MM 16) 2 := ⟨⟨by decide +kernel, by decide +kernel, by decide +kernel⟩, by decide +kernel, aw_1⟩
theorem cw_17 : rn_cw "" 0 (MM 17) 3 := ⟨⟨by decide +kernel, by decide +kernel, by decide +kernel⟩, by decide +kernel, aw_1⟩
theorem cw_18 : rn_cw "" 0 (MM 18) 1 := ⟨⟨by decide +kernel, by decide +kernel, by decide +kernel⟩, by decide +kernel, aw_1⟩
theorem cw_19 : rn_cw "" 0 (MM 19) 1 := ⟨⟨by decide +kernel, by decide +kernel, by decide +kernel⟩, by decide +kernel, aw_1⟩
theorem cw_20 : rn_cw "" 0 (MM 20) 0 := ⟨⟨by decide +kernel, by decide +kernel, by decide +kernel⟩, by decide +kernel, aw_22⟩
theorem cw_21 : rn_cw "" 0 (MM 21) 0 := ⟨⟨by decide +kernel, by decide +kernel, by decide +kernel⟩, by decide +kernel, aw_1⟩
theorem cw_22 : rn_cw "" 0 (MM 22) 0 := ⟨⟨by decide +kernel, by decide +kernel, by decide +kernel⟩, by decide +kernel, aw_1⟩
theorem cw_23 : rn_cw "" 0 (MM 23) 3 := ⟨⟨by decide +kernel, by decide +kernel, by decide +kernel⟩, by decide +kernel, aw_0⟩
theorem cw_24 : rn_cw "" 0 (MM 24) 0 := ⟨⟨by decide +kernel, by decide +kernel, by decide +kernel⟩, by decide +kernel, aw_33⟩
theorem cw_25 : rn_cw "" 0 (MM 25) 2 := ⟨⟨by decide +kernel, by decide +kernel, by decide +kernel⟩, by decide +kernel, aw_1⟩
theorem cw_26 : rn_cw "" 0 (MM 26) 2 := ⟨⟨by decide +kernel, by decide +kernel, by decide +kernel⟩, by decide +kernel, aw_1⟩
theorem cw_27 : rn_cw "" 0 (MM 27) 1 := ⟨⟨by decide +kernel, by decide +kernel, by decide +kernel⟩, by decide +kernel, aw_1⟩
theorem cw_28 : rn_cw "" 0 (MM 28) 2 := ⟨⟨by decide +kernel, by decide +kernel, by decide +kernel⟩, by decide +kernel, aw_1⟩
theorem cw_29 : rn_cw "" 0 (MM 29) 0 := ⟨⟨by decide +kernel, by decide +kernel, by decide +kernel⟩, by decide +kernel, aw_1⟩
theorem cw_30 : rn_cw "" 0 (MM 30) 1 := ⟨⟨by decide +kernel, by decide +kernel, by decide +kernel⟩, by decide +kernel, aw_1⟩
theorem cw_31 : rn_cw "" 0 (MM 31) 0 := ⟨⟨by decide +kernel, by decide +kernel, by decide +kernel⟩, by decide +kernel, aw_1⟩
theorem cw_32 : rn_cw "" 0 (MM 32) 1 := ⟨⟨by decide +kernel, by decide +kernel, by decide +kernel⟩, by decide +kernel, aw_16⟩
theorem cw_33 : rn_cw "" 0 (MM 33) 1 := ⟨⟨by decide +kernel, by decide +kernel, by decide +kernel⟩, by decide +kernel, aw_16⟩
theorem cw_34 : rn_cw "" 0 (MM 34) 0 := ⟨⟨by decide +kernel, by decide +kernel, by decide +kernel⟩, by decide +kernel, aw_16⟩
theorem cw_35 : rn_cw "" 0 (MM 35) 0 := ⟨⟨by decide +kernel, by decide +kernel, by decide +kernel⟩, by decide +kernel, aw_16⟩
theorem cw_36 : rn_cw "" 0 (MM 36) 0 := ⟨⟨by decide +kernel, by decide +kernel, by decide +kernel⟩, by decide +kernel, aw_16⟩
theorem cw_37 : rn_cw "" 0 (MM 37) 0 := ⟨⟨by decide +kernel, by decide +kernel, by decide +kernel⟩, by decide +kernel, aw_16⟩
theorem cw_38 : rn_cw "" 0 (MM 38) 0 := ⟨⟨by decide +kernel, by decide +kernel, by decide +kernel⟩, by decide +kernel, aw_16⟩
theorem cw_39 : rn_cw "" 0 (MM 39) 0 := ⟨⟨by decide +kernel, by decide +kernel, by decide +kernel⟩, by decide +kernel, aw_16⟩
theorem cw_40 : rn_cw "" 0 (MM 40) 0 := ⟨⟨by decide +kernel, by decide +kernel, by decide +kernel⟩, by decide +kernel, aw_23⟩
theorem cw_41 : rn_cw "" 0 (MM 41) 0 := ⟨⟨by decide +kernel, by decide +kernel, by decide +kernel⟩, by decide +kernel, aw_24⟩
theorem cw_42 : rn_cw "" 0 (MM 42) 0 := ⟨⟨by decide +kernel, by decide +kernel, by decide +kernel⟩, by decide +kernel, aw_1⟩
theorem cw_43 : rn_cw "" 0 (MM 43) 0 := ⟨⟨by decide +kernel, by decide +kernel, by decide +kernel⟩, by decide +kernel, aw_22⟩
theorem cw_44 : rn_cw "" 0 (MM 44) 0 := ⟨⟨by decide +kernel, by decide +kernel, by decide +kernel⟩, by decide +kernel, aw_22⟩
theorem cw_45 : rn_cw "" 0 (MM 45) 0 := ⟨⟨by decide +kernel, by decide +kernel, by decide +kernel⟩, by decide +kernel, aw_16⟩
theorem cw_46 : rn_cw "" 0 (MM 46) 1 := ⟨⟨by decide +kernel, by decide +kernel, by decide +kernel⟩, by decide +kernel, aw_16⟩
theorem cw_47 : rn_cw "" 0 (MM 47) 2 := ⟨⟨by decide +kernel, by decide +kernel, by decide +kernel⟩, by decide +kernel, aw_1⟩
theorem cw_48 : rn_cw "" 0 (MM 48) 2 := ⟨⟨by decide +kernel, by decide +kernel, by decide +kernel⟩, by decide +kernel, aw_1⟩
theorem cw_49 : rn_cw "" 0 (MM 49) 0 := ⟨⟨by decide +kernel, by decide +kernel, by decide +kernel⟩, by decide +kernel, aw_16⟩
theorem cw_50 : rn_cw "" 0 (MM 50) 0 := ⟨⟨by decide +kernel, by decide +kernel, by decide +kernel⟩, by decide +kernel, aw_1⟩
theorem cw_51 : rn_cw "" 0 (MM 51) 0 := ⟨⟨by decide +kernel, by decide +kernel, by decide +kernel⟩, by decide +kernel, aw_22⟩
theorem cw_52 : rn_cw "" 0 (MM 52) 0 := ⟨⟨by decide +kernel, by decide +kernel, by decide +kernel⟩, by decide +kernel, aw_22⟩
theorem cw_53 : rn_cw "" 0 (MM 53) 0 := ⟨⟨by decide +kernel, by decide +kernel, by decide +kernel⟩, by decide +kernel, aw_16⟩
theorem cw_54 : rn_cw "" 0 (MM 54) 1 := ⟨⟨by decide +kernel, by decide +kernel, by decide +kernel⟩, by decide +kernel, aw_16⟩
theorem cw_55 : rn_cw "" 0 (MM 55) 0 := ⟨⟨by decide +kernel, by decide +kernel, by decide +kernel⟩, by decide +kernel, aw_1⟩
theorem cw_56 : rn_cw "" 0 (MM 56) 0 := ⟨⟨by decide +kernel, by decide +kernel, by decide +kernel⟩, by decide +kernel, aw_23⟩
theorem cw_57 : rn_cw "" 0 (MM 57) 1 := ⟨⟨by decide +kernel, by decide +kernel, by decide +kernel⟩, by decide +kernel, aw_23⟩
theorem cw_58 : rn_cw "" 0 (MM 58) 0 := ⟨⟨by decide +kernel, by decide +kernel, by decide +kernel⟩, by decide +kernel, aw_22⟩
theorem cw_59 : rn_cw "" 0 (MM 59) 1 := ⟨⟨by decide +kernel, by decide +kernel, by decide +kernel⟩, by decide +kernel, aw_24⟩
theorem cw_60 : rn_cw "" 0 (MM 60) 1 := ⟨⟨by decide +kernel, by decide +kernel, by decide +kernel⟩, by decide +kernel, aw_24⟩
theorem cw_61 : rn_cw "" 0 (MM 61) 2 := ⟨⟨by decide +kernel, by decide +kernel, by decide +kernel⟩, by decide +kernel, aw_23⟩
theorem cw_62 : rn_cw "" 0 (MM 62) 0 := ⟨⟨by decide +kernel, by decide +kernel, by decide +kernel⟩, by decide +kernel, aw_22⟩
theorem cw_63 : rn_cw "" 0 (MM 63) 0 := ⟨⟨by decide +kernel, by decide +kernel, by decide +kernel⟩, by decide +kernel, aw_22⟩
theorem cw_64 : rn_cw "" 0 (MM 64) 2 := ⟨⟨by decide +kernel, by decide +kernel, by decide +kernel⟩, by decide +kernel, aw_24⟩
theorem cw_65 : rn_cw "" 0 (MM 65) 1 := ⟨⟨by decide +kernel, by decide +kernel, by decide +kernel⟩, by decide +kernel, aw_24⟩
theorem cw_66 : rn_cw "" 0 (MM 66) 0 := ⟨⟨by decide +kernel, by decide +kernel, by decide +kernel⟩, by decide +kernel, aw_24⟩
theorem cw_67 : rn_cw "" 0 (MM 67) 2 := ⟨⟨by decide +kernel, by decide +kernel, by decide +kernel⟩, by decide +kernel, aw_0⟩
theorem cw_68 : rn_cw "" 0 (MM 68) 2 := ⟨⟨by decide +kernel, by decide +kernel, by decide +kernel⟩, by decide +kernel, aw_0⟩
theorem cw_69 : rn_cw "" 0 (MM 69) 1 := ⟨⟨by decide +kernel, by decide +kernel, by decide +kernel⟩, by decide +kernel, aw_0⟩
theorem cw_71 : rn_cw "" 0 (MM 71) 0 := ⟨⟨by decide +kernel, by decide +kernel, by decide +kernel⟩, by decide +kernel, aw_0⟩
theorem cw_72 : rn_cw "" 0 (MM 72) 2 := ⟨⟨by decide +kernel, by decide +kernel, by decide +kernel⟩, by decide +kernel, aw_0⟩
theorem cw_73 : rn_cw "" 0 (MM 73) 0 := ⟨⟨by decide +kernel, by decide +kernel, by decide +kernel⟩, by decide +kernel, aw_1⟩
theorem cw_74 : rn_cw "" 0 (MM 74) 0 := ⟨⟨by decide +kernel, by decide +kernel, by decide +kernel⟩, by decide +kernel, aw_4⟩
theorem cw_75 : rn_cw "" 0 (MM 75) 0 := ⟨⟨by decide +kernel, by decide +kernel, by decide +kernel⟩, by decide +kernel, aw_3⟩
theorem cw_76 : rn_cw "" 0 (MM 76) 0 := ⟨⟨by decide +kernel, by decide +kernel, by decide +kernel⟩, by decide +kernel, aw_2⟩
theorem cw_77 : rn_cw "" 0 (MM 77) 1 := ⟨⟨by decide +kernel, by decide +kernel, by decide +kernel⟩, by decide +kernel, aw_4⟩
theorem cw_78 : rn_cw "" 0 (MM 78) 3 := ⟨⟨by decide +kernel, by decide +kernel, by decide +kernel⟩, by decide +kernel, aw_4⟩
theorem cw_79 : rn_cw "" 0 (MM 79) 0 := ⟨⟨by decide +kernel, by decide +kernel, by decide +kernel⟩, by decide +kernel, aw_4⟩
theorem cw_80 : rn_cw "" 0 (MM 80) 1 := ⟨⟨by decide +kernel, by decide +kernel, by decide +kernel⟩, by decide +kernel, aw_4⟩
theorem cw_81 : rn_cw "" 0 (MM 81) 0 := ⟨⟨by decide +kernel, by decide +kernel, by decide +kernel⟩, by decide +kernel, aw_4⟩
theorem cw_82 : rn_cw "" 0 (MM 82) 2 := ⟨⟨by decide +kernel, by decide +kernel, by decide +kernel⟩, by decide +kernel, aw_1⟩
theorem cw_83 : rn_cw "" 0 (MM 83) 2 := ⟨⟨by decide +kernel, by decide +kernel, by decide +kernel⟩, by decide +kernel, aw_16⟩
theorem cw_84 : rn_cw "" 0 (MM 84) 1 := ⟨⟨by decide +kernel, by decide +kernel, by decide +kernel⟩, by decide +kernel, aw_1⟩
theorem cw_85 : rn_cw "" 0 (MM 85) 3 := ⟨⟨by decide +kernel, by decide +kernel, by decide +kernel⟩, by decide +kernel, aw_1⟩
theorem cw_86 : rn_cw "" 0 (MM 86) 2 := ⟨⟨by decide +kernel, by decide +kernel, by decide +kernel⟩, by decide +kernel, aw_16⟩
theorem cw_87 : rn_cw "" 0 (MM 87) 2 := ⟨⟨by decide +kernel, by decide +kernel, by decide +kernel⟩, by decide +kernel, aw_21⟩
theorem cw_88 : rn_cw "" 0 (MM 88) 3 := ⟨⟨by decide +kernel, by decide +kernel, by decide +kernel⟩, by decide +kernel, aw_1⟩
theorem cw_89 : rn_cw "" 0 (MM 89) 1 := ⟨⟨by decide +kernel, by decide +kernel, by decide +kernel⟩, by decide +kernel, aw_1⟩
theorem cw_90 : rn_cw "" 0 (MM 90) 1 := ⟨⟨by decide +kernel, by decide +kernel, by decide +kernel⟩, by decide +kernel, aw_1⟩
theorem cw_91 : rn_cw "" 0 (MM 91) 1 := ⟨⟨by decide +kernel, by decide +kernel, by decide +kernel⟩, by decide +kernel, aw_1⟩
theorem cw_92 : rn_cw "" 0 (MM 92) 3 := ⟨⟨by decide +kernel, by decide +kernel, by decide +kernel⟩, by decide +kernel, aw_1⟩
theorem cw_93 : rn_cw "" 0 (MM 93) 3 := ⟨⟨by decide +kernel, by decide +kernel, by decide +kernel⟩, by decide +kernel, aw_22⟩
theorem cw_94 : rn_cw "" 0 (MM 94) 1 := ⟨⟨by decide +kernel, by decide +kernel, by decide +kernel⟩, by decide +kernel, aw_1⟩
theorem cw_95 : rn_cw "" 0 (MM 95) 1 := ⟨⟨by decide +kernel, by decide +kernel, by decide +kernel⟩, by decide +kernel, aw_1⟩
theorem cw_96 : rn_cw "" 0 (MM 96) 2 := ⟨⟨by decide +kernel, by decide +kernel, by decide +kernel⟩, by decide +kernel, aw_1⟩
theorem cw_97 : rn_cw "" 0 (MM 97) 1 := ⟨⟨by decide +kernel, by decide +kernel, by decide +kernel⟩, by decide +kernel, aw_1⟩
theorem cw_98 : rn_cw "" 0 (MM 98) 3 := ⟨⟨by decide +kernel, by decide +kernel, by decide +kernel⟩, by decide +kernel, aw_1⟩
theorem cw_99 : rn_cw "" 0 (MM 99) 3 := ⟨⟨by decide +kernel, by decide +kernel, by decide +kernel⟩, by decide +kernel, aw_1⟩
theorem cw_100 : rn_cw "" 0 (MM 100) 4 := ⟨⟨by decide +kernel, by decide +kernel, by decide +kernel⟩, by decide +kernel, aw_23⟩
theorem cw_101 : rn_cw "" 0 (MM 101) 1 := ⟨⟨by decide +kernel, by decide +kernel, by decide +kernel⟩, by decide +kernel, aw_24⟩
theorem cw_102 : rn_cw "" 0 (MM 102) 2 := ⟨⟨by decide +kernel, by decide +kernel, by decide +kernel⟩, by decide +kernel, aw_1⟩
theorem cw_103 : rn_cw "" 0 (MM 103) 1 := ⟨⟨by decide +kernel, by decide +kernel, by decide +kernel⟩, by decide +kernel, aw_23⟩
theorem cw_104 : rn_cw "" 0 (MM 104) 1 := ⟨⟨by decide +kernel, by decide +kernel, by decide +kernel⟩, by decide +kernel, aw_23⟩
theorem cw_105 : rn_cw "" 0 (MM 105) 2 := ⟨⟨by decide +kernel, by decide +kernel, by decide +kernel⟩, by decide +kernel, aw_4⟩
theorem cw_106 : rn_cw "" 0 (MM 106) 1 := ⟨⟨by decide +kernel, by decide +kernel, by decide +kernel⟩, by decide +kernel, aw_4⟩
theorem cw_107 : rn_cw "" 0 (MM 107) 1 := ⟨⟨by decide +kernel, by decide +kernel, by decide +kernel⟩, by decide +kernel, aw_1⟩
theorem cw_108 : rn_cw "" 0 (MM 108) 1 := ⟨⟨by decide +kernel, by decide +kernel, by decide +kernel⟩, by decide +kernel, aw_1⟩
theorem cw_109 : rn_cw "" 0 (MM 109) 2 := ⟨⟨by decide +kernel, by decide +kernel, by decide +kernel⟩, by decide +kernel, aw_1⟩
theorem cw_110 : rn_cw "" 0 (MM 110) 1 := ⟨⟨by decide +kernel, by decide +kernel, by decide +kernel⟩, by decide +kernel, aw_1⟩
theorem cw_111 : rn_cw "" 0 (MM 111) 1 := ⟨⟨by decide +kernel, by decide +kernel, by decide +kernel⟩, by decide +kernel, aw_1⟩
theorem cw_112 : rn_cw "" 0 (MM 112) 1 := ⟨⟨by decide +kernel, by decide +kernel, by decide +kernel⟩, by decide +kernel, aw_1⟩
theorem cw_113 : rn_cw "" 0 (MM 113) 1 := ⟨⟨by decide +kernel, by decide +kernel, by decide +kernel⟩, by decide +kernel, aw_1⟩
theorem cw_114 : rn_cw "" 0 (MM 114) 1 := ⟨⟨by decide +kernel, by decide +kernel, by decide +kernel⟩, by decide +kernel, aw_1⟩
theorem cw_115 : rn_cw "" 0 (MM 115) 0 := ⟨⟨by decide +kernel, by decide +kernel, by decide +kernel⟩, by decide +kernel, aw_1⟩
theorem cw_116 : rn_cw "" 0 (MM 116) 0 := ⟨⟨by decide +kernel, by decide +kernel, by decide +kernel⟩, by decide +kernel, aw_33⟩
theorem cw_117 : rn_cw "" 0 (MM 117) 0 := ⟨⟨by decide +kernel, by decide +kernel, by decide +kernel⟩, by decide +kernel, aw_1⟩
theorem cw_118 : rn_cw "" 0 (MM 118) 0 := ⟨⟨by decide +kernel, by decide +kernel, by decide +kernel⟩, by decide +kernel, aw_1⟩
theorem cw_119 : rn_cw "" 0 (MM 119) 0 := ⟨⟨by decide +kernel, by decide +kernel, by decide +kernel⟩, by decide +kernel, aw_1⟩
theorem cw_120 : rn_cw "" 0 (MM 120) 0 := ⟨⟨by decide +kernel, by decide +kernel, by decide +kernel⟩, by decide +kernel, aw_1⟩
theorem cw_121 : rn_cw "" 0 (MM 121) 0 := ⟨⟨by decide +kernel, by decide +kernel, by decide +kernel⟩, by decide +kernel, aw_1⟩
theorem cw_122 : rn_cw "" 0 (MM 122) 0 := ⟨⟨by decide +kernel, by decide +kernel, by decide +kernel⟩, by decide +kernel, aw_1⟩
theorem cw_123 : rn_cw "" 0 (MM 123) 0 := ⟨⟨by decide +kernel, by decide +kernel, by decide +kernel⟩, by decide +kernel, aw_22⟩
theorem cw_124 : rn_cw "" 0 (MM 124) 0 := ⟨⟨by decide +kernel, by decide +kernel, by decide +kernel⟩, by decide +kernel, aw_1⟩
theorem cw_125 : rn_cw "" 0 (MM 125) 0 := ⟨⟨by decide +kernel, by decide +kernel, by decide +kernel⟩, by decide +kernel, aw_1⟩
theorem cw_126 : rn_cw "" 0 (MM 126) 0 := ⟨⟨by decide +kernel, by decide +kernel, by decide +kernel⟩, by decide +kernel, aw_16⟩
theorem ct_L_ask : ∀ q ∈ [(73, 0), (76, 1), (79, 2), (82, 3), (85, 4)], Cond.classLink RL q.1 (rn_xn q.2) ∈ rn_ALL := (rn_c3w aw_178 (rn_c3w aw_258 (rn_c3w aw_259 (rn_c3w aw_260 (rn_c3w aw_261 rn_n3)))))
theorem ct_L_hasNone : ∀ q ∈ [(153, 5)], Cond.classLink RL q.1 (rn_xn q.2) ∈ rn_ALL := (rn_c3w aw_1282 rn_n3)
end RNP
