theorem dL_1258 : decode code 1258 = .ok (.aload_n 1, 1) := by decide +kernel
theorem dL_1259 : decode code 1259 = .ok (.aload_n 0, 1) := by decide +kernel
theorem dL_1260 : decode code 1260 = .ok (.iload_n 3, 1) := by decide +kernel
theorem dL_1261 : decode code 1261 = .ok (.iconst 1, 1) := by decide +kernel
theorem dL_1262 : decode code 1262 = .ok (.iadd, 1) := by decide +kernel
theorem dL_1263 : decode code 1263 = .ok (.iaload, 1) := by decide +kernel
theorem dL_1264 : decode code 1264 = .ok (.aload_n 0, 1) := by decide +kernel
theorem dL_1265 : decode code 1265 = .ok (.iload_n 3, 1) := by decide +kernel
theorem dL_1266 : decode code 1266 = .ok (.iconst 2, 1) := by decide +kernel
theorem dL_1267 : decode code 1267 = .ok (.iadd, 1) := by decide +kernel
theorem dL_1268 : decode code 1268 = .ok (.iaload, 1) := by decide +kernel
theorem dL_1269 : decode code 1269 = .ok (.invokevirtual 132, 3) := by decide +kernel
theorem dL_1272 : decode code 1272 = .ok (.aload_n 2, 1) := by decide +kernel
theorem dL_1273 : decode code 1273 = .ok (.aload_n 0, 1) := by decide +kernel
theorem dL_1274 : decode code 1274 = .ok (.iload_n 3, 1) := by decide +kernel
theorem dL_1275 : decode code 1275 = .ok (.iconst 1, 1) := by decide +kernel
theorem dL_1276 : decode code 1276 = .ok (.iadd, 1) := by decide +kernel
theorem dL_1277 : decode code 1277 = .ok (.iaload, 1) := by decide +kernel
theorem dL_1278 : decode code 1278 = .ok (.aload_n 0, 1) := by decide +kernel
theorem dL_1279 : decode code 1279 = .ok (.iload_n 3, 1) := by decide +kernel
theorem dL_1280 : decode code 1280 = .ok (.iconst 2, 1) := by decide +kernel
theorem dL_1281 : decode code 1281 = .ok (.iadd, 1) := by decide +kernel
theorem dL_1282 : decode code 1282 = .ok (.iaload, 1) := by decide +kernel
theorem dL_1283 : decode code 1283 = .ok (.invokevirtual 135, 3) := by decide +kernel
theorem dL_1286 : decode code 1286 = .ok (.if_icmp .eq 269, 3) := by decide +kernel
theorem ml_L_132 : Cond.methodLink R_law 132 yX11_alike ∈ AW := (aw_m5 27 (by decide +kernel) rfl)
theorem ml_L_135 : Cond.methodLink R_law 135 yX12_alike ∈ AW := (aw_m7 184 (by decide +kernel) rfl)
set_option maxHeartbeats 4000000 in
set_option maxRecDepth 100000 in
theorem lc_28 {p : Program} {l : Launch} {e : Env} {s : State} {m : MethodId} {below : List Frame} {meth : Method} {c : Code} {H : Heap} {locs : List Loc} {cells slots : Nat} {Q : State → Prop} {g : zG} {h : HF} {ls : Array Slot} {b L : Nat} {xs : Nat → Int32} {F : Nat} {Inv : HF → Prop} (hS : PS_alike F Inv) (lx : Lx p s m meth c b L xs g) (hcs : cells ≤ room_1.cells ∧ slots ≤ room_1.slots) {x : Int} (hx : 0 ≤ x ∧ x + 6 ≤ (L : Int)) (hI : Inv h) (hp : Hp g s.heap.size s h H locs) (hl : lv_has ls 4 [(0, .ref b), (1, .ref (s.heap.size + 0)), (2, .ref (s.heap.size + 181)), (3, .int (ii x))]) (kk : ∀ (h : HF) (H : Heap) (locs : List Loc), Inv h → Hp g s.heap.size s h H locs → W p l e room_1 s m #[Value.ref b] below meth c H locs cells slots Q (F0 m 1555 ls [])) : W p l e room_1 s m #[Value.ref b] below meth c H locs cells slots Q (F0 m 1258 ls []) := by
  have cx := lx.1
  obtain ⟨s1, e1⟩ : ∃ z, z = (xs (x + 1).toNat).toInt := ⟨_, rfl⟩
  have rs1 : rng s1 := by rw [e1]; exact rng_ti _
  obtain ⟨s2, e2⟩ : ∃ z, z = (xs (x + 2).toNat).toInt := ⟨_, rfl⟩
  have rs2 : rng s2 := by rw [e2]; exact rng_ti _
  obtain ⟨r, h1, h2, f1, f2, hI2⟩ := hS h s1 s2 hI rs1 rs2
  refine lv_aload_n cx.1 cx.2.1 dL_1258 rfl (lv_at hl 1 rfl) ?_
  refine l_arg lx hp hl (j := 1) ⟨by omega, by omega⟩ dL_1259 dL_1260 dL_1261 dL_1262 dL_1263 ?_
  rw [← e1]
  refine l_arg lx hp hl (j := 2) ⟨by omega, by omega⟩ dL_1264 dL_1265 dL_1266 dL_1267 dL_1268 ?_
  rw [← e2]
  refine l_call (As := [.int (ii s1), .int (ii s2)]) (rest := []) cx hp (mX11_alike F l g s.heap.size h 0 s1 s2 (by decide) rs1 rs2) 11 (by decide) (by decide) rfl vw_X11_alike ml_L_132 ⟨by decide, by decide⟩ hcs rfl hl.1 rfl (Nat.le_of_ble_eq_true rfl) dL_1269 f1 (fun H locs rr hp => ?_)
  refine lv_aload_n cx.1 cx.2.1 dL_1272 rfl (lv_at hl 2 rfl) ?_
  refine l_arg lx hp hl (j := 1) ⟨by omega, by omega⟩ dL_1273 dL_1274 dL_1275 dL_1276 dL_1277 ?_
  rw [← e1]
  refine l_arg lx hp hl (j := 2) ⟨by omega, by omega⟩ dL_1278 dL_1279 dL_1280 dL_1281 dL_1282 ?_
  rw [← e2]
  refine l_call (As := [.int (ii s1), .int (ii s2)]) (rest := [.int (ii r)]) cx hp (mX12_alike F l g s.heap.size h1 181 s1 s2 (by decide) rs1 rs2) 12 (by decide) (by decide) rfl vw_X12_alike ml_L_135 ⟨by decide, by decide⟩ hcs rfl hl.1 rfl (Nat.le_of_ble_eq_true rfl) dL_1283 f2 (fun H locs rr hp => ?_)
  refine lv_icmp_eq (tgt := 1555) cx.1 cx.2.1 dL_1286 (by decide) (fun _ => ?_) (fun q => absurd rfl q)
  exact kk h2 _ _ hI2 hp
theorem dL_1291 : decode code 1291 = .ok (.aload_n 1, 1) := by decide +kernel
theorem dL_1292 : decode code 1292 = .ok (.aload_n 0, 1) := by decide +kernel
theorem dL_1293 : decode code 1293 = .ok (.iload_n 3, 1) := by decide +kernel
theorem dL_1294 : decode code 1294 = .ok (.iconst 1, 1) := by decide +kernel
theorem dL_1295 : decode code 1295 = .ok (.iadd, 1) := by decide +kernel
theorem dL_1296 : decode code 1296 = .ok (.iaload, 1) := by decide +kernel
theorem dL_1297 : decode code 1297 = .ok (.aload_n 0, 1) := by decide +kernel
theorem dL_1298 : decode code 1298 = .ok (.iload_n 3, 1) := by decide +kernel
theorem dL_1299 : decode code 1299 = .ok (.iconst 2, 1) := by decide +kernel
theorem dL_1300 : decode code 1300 = .ok (.iadd, 1) := by decide +kernel
theorem dL_1301 : decode code 1301 = .ok (.iaload, 1) := by decide +kernel
theorem dL_1302 : decode code 1302 = .ok (.invokevirtual 136, 3) := by decide +kernel
theorem dL_1305 : decode code 1305 = .ok (.aload_n 2, 1) := by decide +kernel
theorem dL_1306 : decode code 1306 = .ok (.aload_n 0, 1) := by decide +kernel
theorem dL_1307 : decode code 1307 = .ok (.iload_n 3, 1) := by decide +kernel
theorem dL_1308 : decode code 1308 = .ok (.iconst 1, 1) := by decide +kernel
theorem dL_1309 : decode code 1309 = .ok (.iadd, 1) := by decide +kernel
theorem dL_1310 : decode code 1310 = .ok (.iaload, 1) := by decide +kernel
theorem dL_1311 : decode code 1311 = .ok (.aload_n 0, 1) := by decide +kernel
theorem dL_1312 : decode code 1312 = .ok (.iload_n 3, 1) := by decide +kernel
theorem dL_1313 : decode code 1313 = .ok (.iconst 2, 1) := by decide +kernel
theorem dL_1314 : decode code 1314 = .ok (.iadd, 1) := by decide +kernel
theorem dL_1315 : decode code 1315 = .ok (.iaload, 1) := by decide +kernel
theorem dL_1316 : decode code 1316 = .ok (.invokevirtual 139, 3) := by decide +kernel
theorem dL_1319 : decode code 1319 = .ok (.if_icmp .eq 236, 3) := by decide +kernel
theorem ml_L_136 : Cond.methodLink R_law 136 yX11_least ∈ AW := (aw_m5 35 (by decide +kernel) rfl)
theorem ml_L_139 : Cond.methodLink R_law 139 yX12_least ∈ AW := (aw_m7 188 (by decide +kernel) rfl)
set_option maxHeartbeats 4000000 in
set_option maxRecDepth 100000 in
theorem lc_29 {p : Program} {l : Launch} {e : Env} {s : State} {m : MethodId} {below : List Frame} {meth : Method} {c : Code} {H : Heap} {locs : List Loc} {cells slots : Nat} {Q : State → Prop} {g : zG} {h : HF} {ls : Array Slot} {b L : Nat} {xs : Nat → Int32} {F : Nat} {Inv : HF → Prop} (hS : PS_least F Inv) (lx : Lx p s m meth c b L xs g) (hcs : cells ≤ room_1.cells ∧ slots ≤ room_1.slots) {x : Int} (hx : 0 ≤ x ∧ x + 6 ≤ (L : Int)) (hI : Inv h) (hp : Hp g s.heap.size s h H locs) (hl : lv_has ls 4 [(0, .ref b), (1, .ref (s.heap.size + 0)), (2, .ref (s.heap.size + 181)), (3, .int (ii x))]) (kk : ∀ (h : HF) (H : Heap) (locs : List Loc), Inv h → Hp g s.heap.size s h H locs → W p l e room_1 s m #[Value.ref b] below meth c H locs cells slots Q (F0 m 1555 ls [])) : W p l e room_1 s m #[Value.ref b] below meth c H locs cells slots Q (F0 m 1291 ls []) := by
  have cx := lx.1
  obtain ⟨s1, e1⟩ : ∃ z, z = (xs (x + 1).toNat).toInt := ⟨_, rfl⟩
  have rs1 : rng s1 := by rw [e1]; exact rng_ti _
  obtain ⟨s2, e2⟩ : ∃ z, z = (xs (x + 2).toNat).toInt := ⟨_, rfl⟩
  have rs2 : rng s2 := by rw [e2]; exact rng_ti _
  obtain ⟨r, h1, h2, f1, f2, hI2⟩ := hS h s1 s2 hI rs1 rs2
  refine lv_aload_n cx.1 cx.2.1 dL_1291 rfl (lv_at hl 1 rfl) ?_
  refine l_arg lx hp hl (j := 1) ⟨by omega, by omega⟩ dL_1292 dL_1293 dL_1294 dL_1295 dL_1296 ?_
  rw [← e1]
  refine l_arg lx hp hl (j := 2) ⟨by omega, by omega⟩ dL_1297 dL_1298 dL_1299 dL_1300 dL_1301 ?_
  rw [← e2]
  refine l_call (As := [.int (ii s1), .int (ii s2)]) (rest := []) cx hp (mX11_least F l g s.heap.size h 0 s1 s2 (by decide) rs1 rs2) 11 (by decide) (by decide) rfl vw_X11_least ml_L_136 ⟨by decide, by decide⟩ hcs rfl hl.1 rfl (Nat.le_of_ble_eq_true rfl) dL_1302 f1 (fun H locs rr hp => ?_)
  refine lv_aload_n cx.1 cx.2.1 dL_1305 rfl (lv_at hl 2 rfl) ?_
  refine l_arg lx hp hl (j := 1) ⟨by omega, by omega⟩ dL_1306 dL_1307 dL_1308 dL_1309 dL_1310 ?_
  rw [← e1]
  refine l_arg lx hp hl (j := 2) ⟨by omega, by omega⟩ dL_1311 dL_1312 dL_1313 dL_1314 dL_1315 ?_
  rw [← e2]
  refine l_call (As := [.int (ii s1), .int (ii s2)]) (rest := [.int (ii r)]) cx hp (mX12_least F l g s.heap.size h1 181 s1 s2 (by decide) rs1 rs2) 12 (by decide) (by decide) rfl vw_X12_least ml_L_139 ⟨by decide, by decide⟩ hcs rfl hl.1 rfl (Nat.le_of_ble_eq_true rfl) dL_1316 f2 (fun H locs rr hp => ?_)
  refine lv_icmp_eq (tgt := 1555) cx.1 cx.2.1 dL_1319 (by decide) (fun _ => ?_) (fun q => absurd rfl q)
  exact kk h2 _ _ hI2 hp
theorem dL_1324 : decode code 1324 = .ok (.aload_n 1, 1) := by decide +kernel
theorem dL_1325 : decode code 1325 = .ok (.aload_n 0, 1) := by decide +kernel
theorem dL_1326 : decode code 1326 = .ok (.iload_n 3, 1) := by decide +kernel
theorem dL_1327 : decode code 1327 = .ok (.iconst 1, 1) := by decide +kernel
theorem dL_1328 : decode code 1328 = .ok (.iadd, 1) := by decide +kernel
theorem dL_1329 : decode code 1329 = .ok (.iaload, 1) := by decide +kernel
theorem dL_1330 : decode code 1330 = .ok (.aload_n 0, 1) := by decide +kernel
theorem dL_1331 : decode code 1331 = .ok (.iload_n 3, 1) := by decide +kernel
theorem dL_1332 : decode code 1332 = .ok (.iconst 2, 1) := by decide +kernel
theorem dL_1333 : decode code 1333 = .ok (.iadd, 1) := by decide +kernel
theorem dL_1334 : decode code 1334 = .ok (.iaload, 1) := by decide +kernel
theorem dL_1335 : decode code 1335 = .ok (.aload_n 0, 1) := by decide +kernel
theorem dL_1336 : decode code 1336 = .ok (.iload_n 3, 1) := by decide +kernel
theorem dL_1337 : decode code 1337 = .ok (.iconst 3, 1) := by decide +kernel
theorem dL_1338 : decode code 1338 = .ok (.iadd, 1) := by decide +kernel
theorem dL_1339 : decode code 1339 = .ok (.iaload, 1) := by decide +kernel
theorem dL_1340 : decode code 1340 = .ok (.invokevirtual 140, 3) := by decide +kernel
theorem dL_1343 : decode code 1343 = .ok (.aload_n 2, 1) := by decide +kernel
theorem dL_1344 : decode code 1344 = .ok (.aload_n 0, 1) := by decide +kernel
theorem dL_1345 : decode code 1345 = .ok (.iload_n 3, 1) := by decide +kernel
theorem dL_1346 : decode code 1346 = .ok (.iconst 1, 1) := by decide +kernel
theorem dL_1347 : decode code 1347 = .ok (.iadd, 1) := by decide +kernel
theorem dL_1348 : decode code 1348 = .ok (.iaload, 1) := by decide +kernel
theorem dL_1349 : decode code 1349 = .ok (.aload_n 0, 1) := by decide +kernel
theorem dL_1350 : decode code 1350 = .ok (.iload_n 3, 1) := by decide +kernel
theorem dL_1351 : decode code 1351 = .ok (.iconst 2, 1) := by decide +kernel
theorem dL_1352 : decode code 1352 = .ok (.iadd, 1) := by decide +kernel
theorem dL_1353 : decode code 1353 = .ok (.iaload, 1) := by decide +kernel
theorem dL_1354 : decode code 1354 = .ok (.aload_n 0, 1) := by decide +kernel
theorem dL_1355 : decode code 1355 = .ok (.iload_n 3, 1) := by decide +kernel
theorem dL_1356 : decode code 1356 = .ok (.iconst 3, 1) := by decide +kernel
theorem dL_1357 : decode code 1357 = .ok (.iadd, 1) := by decide +kernel
theorem dL_1358 : decode code 1358 = .ok (.iaload, 1) := by decide +kernel
theorem dL_1359 : decode code 1359 = .ok (.invokevirtual 143, 3) := by decide +kernel
theorem dL_1362 : decode code 1362 = .ok (.if_icmp .eq 193, 3) := by decide +kernel
theorem ml_L_140 : Cond.methodLink R_law 140 yX11_product ∈ AW := (aw_m5 64 (by decide +kernel) rfl)
theorem ml_L_143 : Cond.methodLink R_law 143 yX12_product ∈ AW := (aw_m7 224 (by decide +kernel) rfl)
set_option maxHeartbeats 4000000 in
set_option maxRecDepth 100000 in
theorem lc_30 {p : Program} {l : Launch} {e : Env} {s : State} {m : MethodId} {below : List Frame} {meth : Method} {c : Code} {H : Heap} {locs : List Loc} {cells slots : Nat} {Q : State → Prop} {g : zG} {h : HF} {ls : Array Slot} {b L : Nat} {xs : Nat → Int32} {F : Nat} {Inv : HF → Prop} (hS : PS_product F Inv) (lx : Lx p s m meth c b L xs g) (hcs : cells ≤ room_1.cells ∧ slots ≤ room_1.slots) {x : Int} (hx : 0 ≤ x ∧ x + 6 ≤ (L : Int)) (hI : Inv h) (hp : Hp g s.heap.size s h H locs) (hl : lv_has ls 4 [(0, .ref b), (1, .ref (s.heap.size + 0)), (2, .ref (s.heap.size + 181)), (3, .int (ii x))]) (kk : ∀ (h : HF) (H : Heap) (locs : List Loc), Inv h → Hp g s.heap.size s h H locs → W p l e room_1 s m #[Value.ref b] below meth c H locs cells slots Q (F0 m 1555 ls [])) : W p l e room_1 s m #[Value.ref b] below meth c H locs cells slots Q (F0 m 1324 ls []) := by
  have cx := lx.1
  obtain ⟨s1, e1⟩ : ∃ z, z = (xs (x + 1).toNat).toInt := ⟨_, rfl⟩
  have rs1 : rng s1 := by rw [e1]; exact rng_ti _
  obtain ⟨s2, e2⟩ : ∃ z, z = (xs (x + 2).toNat).toInt := ⟨_, rfl⟩
  have rs2 : rng s2 := by rw [e2]; exact rng_ti _
  obtain ⟨s3, e3⟩ : ∃ z, z = (xs (x + 3).toNat).toInt := ⟨_, rfl⟩
  have rs3 : rng s3 := by rw [e3]; exact rng_ti _
  obtain ⟨r, h1, h2, f1, f2, hI2⟩ := hS h s1 s2 s3 hI rs1 rs2 rs3
  refine lv_aload_n cx.1 cx.2.1 dL_1324 rfl (lv_at hl 1 rfl) ?_
  refine l_arg lx hp hl (j := 1) ⟨by omega, by omega⟩ dL_1325 dL_1326 dL_1327 dL_1328 dL_1329 ?_
  rw [← e1]
  refine l_arg lx hp hl (j := 2) ⟨by omega, by omega⟩ dL_1330 dL_1331 dL_1332 dL_1333 dL_1334 ?_
  rw [← e2]
  refine l_arg lx hp hl (j := 3) ⟨by omega, by omega⟩ dL_1335 dL_1336 dL_1337 dL_1338 dL_1339 ?_
  rw [← e3]
  refine l_call (As := [.int (ii s1), .int (ii s2), .int (ii s3)]) (rest := []) cx hp (mX11_product F l g s.heap.size h 0 s1 s2 s3 (by decide) rs1 rs2 rs3) 11 (by decide) (by decide) rfl vw_X11_product ml_L_140 ⟨by decide, by decide⟩ hcs rfl hl.1 rfl (Nat.le_of_ble_eq_true rfl) dL_1340 f1 (fun H locs rr hp => ?_)
  refine lv_aload_n cx.1 cx.2.1 dL_1343 rfl (lv_at hl 2 rfl) ?_
  refine l_arg lx hp hl (j := 1) ⟨by omega, by omega⟩ dL_1344 dL_1345 dL_1346 dL_1347 dL_1348 ?_
  rw [← e1]
  refine l_arg lx hp hl (j := 2) ⟨by omega, by omega⟩ dL_1349 dL_1350 dL_1351 dL_1352 dL_1353 ?_
  rw [← e2]
  refine l_arg lx hp hl (j := 3) ⟨by omega, by omega⟩ dL_1354 dL_1355 dL_1356 dL_1357 dL_1358 ?_
  rw [← e3]
  refine l_call (As := [.int (ii s1), .int (ii s2), .int (ii s3)]) (rest := [.int (ii r)]) cx hp (mX12_product F l g s.heap.size h1 181 s1 s2 s3 (by decide) rs1 rs2 rs3) 12 (by decide) (by decide) rfl vw_X12_product ml_L_143 ⟨by decide, by decide⟩ hcs rfl hl.1 rfl (Nat.le_of_ble_eq_true rfl) dL_1359 f2 (fun H locs rr hp => ?_)
  refine lv_icmp_eq (tgt := 1555) cx.1 cx.2.1 dL_1362 (by decide) (fun _ => ?_) (fun q => absurd rfl q)
  exact kk h2 _ _ hI2 hp
theorem dL_1367 : decode code 1367 = .ok (.aload_n 1, 1) := by decide +kernel
theorem dL_1368 : decode code 1368 = .ok (.aload_n 0, 1) := by decide +kernel
theorem dL_1369 : decode code 1369 = .ok (.iload_n 3, 1) := by decide +kernel
theorem dL_1370 : decode code 1370 = .ok (.iconst 1, 1) := by decide +kernel
theorem dL_1371 : decode code 1371 = .ok (.iadd, 1) := by decide +kernel
theorem dL_1372 : decode code 1372 = .ok (.iaload, 1) := by decide +kernel
theorem dL_1373 : decode code 1373 = .ok (.aload_n 0, 1) := by decide +kernel
theorem dL_1374 : decode code 1374 = .ok (.iload_n 3, 1) := by decide +kernel
theorem dL_1375 : decode code 1375 = .ok (.iconst 2, 1) := by decide +kernel
theorem dL_1376 : decode code 1376 = .ok (.iadd, 1) := by decide +kernel
theorem dL_1377 : decode code 1377 = .ok (.iaload, 1) := by decide +kernel
theorem dL_1378 : decode code 1378 = .ok (.invokevirtual 144, 3) := by decide +kernel
theorem dL_1381 : decode code 1381 = .ok (.aload_n 2, 1) := by decide +kernel
theorem dL_1382 : decode code 1382 = .ok (.aload_n 0, 1) := by decide +kernel
theorem dL_1383 : decode code 1383 = .ok (.iload_n 3, 1) := by decide +kernel
theorem dL_1384 : decode code 1384 = .ok (.iconst 1, 1) := by decide +kernel
theorem dL_1385 : decode code 1385 = .ok (.iadd, 1) := by decide +kernel
theorem dL_1386 : decode code 1386 = .ok (.iaload, 1) := by decide +kernel
theorem dL_1387 : decode code 1387 = .ok (.aload_n 0, 1) := by decide +kernel
theorem dL_1388 : decode code 1388 = .ok (.iload_n 3, 1) := by decide +kernel
theorem dL_1389 : decode code 1389 = .ok (.iconst 2, 1) := by decide +kernel
theorem dL_1390 : decode code 1390 = .ok (.iadd, 1) := by decide +kernel
theorem dL_1391 : decode code 1391 = .ok (.iaload, 1) := by decide +kernel
theorem dL_1392 : decode code 1392 = .ok (.invokevirtual 147, 3) := by decide +kernel
theorem dL_1395 : decode code 1395 = .ok (.if_icmp .eq 160, 3) := by decide +kernel
theorem ml_L_144 : Cond.methodLink R_law 144 yX11_function ∈ AW := (aw_m5 72 (by decide +kernel) rfl)
theorem ml_L_147 : Cond.methodLink R_law 147 yX12_function ∈ AW := (aw_m7 228 (by decide +kernel) rfl)
set_option maxHeartbeats 4000000 in
set_option maxRecDepth 100000 in
theorem lc_31 {p : Program} {l : Launch} {e : Env} {s : State} {m : MethodId} {below : List Frame} {meth : Method} {c : Code} {H : Heap} {locs : List Loc} {cells slots : Nat} {Q : State → Prop} {g : zG} {h : HF} {ls : Array Slot} {b L : Nat} {xs : Nat → Int32} {F : Nat} {Inv : HF → Prop} (hS : PS_function F Inv) (lx : Lx p s m meth c b L xs g) (hcs : cells ≤ room_1.cells ∧ slots ≤ room_1.slots) {x : Int} (hx : 0 ≤ x ∧ x + 6 ≤ (L : Int)) (hI : Inv h) (hp : Hp g s.heap.size s h H locs) (hl : lv_has ls 4 [(0, .ref b), (1, .ref (s.heap.size + 0)), (2, .ref (s.heap.size + 181)), (3, .int (ii x))]) (kk : ∀ (h : HF) (H : Heap) (locs : List Loc), Inv h → Hp g s.heap.size s h H locs → W p l e room_1 s m #[Value.ref b] below meth c H locs cells slots Q (F0 m 1555 ls [])) : W p l e room_1 s m #[Value.ref b] below meth c H locs cells slots Q (F0 m 1367 ls []) := by
  have cx := lx.1
  obtain ⟨s1, e1⟩ : ∃ z, z = (xs (x + 1).toNat).toInt := ⟨_, rfl⟩
  have rs1 : rng s1 := by rw [e1]; exact rng_ti _
  obtain ⟨s2, e2⟩ : ∃ z, z = (xs (x + 2).toNat).toInt := ⟨_, rfl⟩
  have rs2 : rng s2 := by rw [e2]; exact rng_ti _
  obtain ⟨r, h1, h2, f1, f2, hI2⟩ := hS h s1 s2 hI rs1 rs2
  refine lv_aload_n cx.1 cx.2.1 dL_1367 rfl (lv_at hl 1 rfl) ?_
  refine l_arg lx hp hl (j := 1) ⟨by omega, by omega⟩ dL_1368 dL_1369 dL_1370 dL_1371 dL_1372 ?_
  rw [← e1]
  refine l_arg lx hp hl (j := 2) ⟨by omega, by omega⟩ dL_1373 dL_1374 dL_1375 dL_1376 dL_1377 ?_
  rw [← e2]
  refine l_call (As := [.int (ii s1), .int (ii s2)]) (rest := []) cx hp (mX11_function F l g s.heap.size h 0 s1 s2 (by decide) rs1 rs2) 11 (by decide) (by decide) rfl vw_X11_function ml_L_144 ⟨by decide, by decide⟩ hcs rfl hl.1 rfl (Nat.le_of_ble_eq_true rfl) dL_1378 f1 (fun H locs rr hp => ?_)
  refine lv_aload_n cx.1 cx.2.1 dL_1381 rfl (lv_at hl 2 rfl) ?_
  refine l_arg lx hp hl (j := 1) ⟨by omega, by omega⟩ dL_1382 dL_1383 dL_1384 dL_1385 dL_1386 ?_
  rw [← e1]
  refine l_arg lx hp hl (j := 2) ⟨by omega, by omega⟩ dL_1387 dL_1388 dL_1389 dL_1390 dL_1391 ?_
  rw [← e2]
  refine l_call (As := [.int (ii s1), .int (ii s2)]) (rest := [.int (ii r)]) cx hp (mX12_function F l g s.heap.size h1 181 s1 s2 (by decide) rs1 rs2) 12 (by decide) (by decide) rfl vw_X12_function ml_L_147 ⟨by decide, by decide⟩ hcs rfl hl.1 rfl (Nat.le_of_ble_eq_true rfl) dL_1392 f2 (fun H locs rr hp => ?_)
  refine lv_icmp_eq (tgt := 1555) cx.1 cx.2.1 dL_1395 (by decide) (fun _ => ?_) (fun q => absurd rfl q)
  exact kk h2 _ _ hI2 hp
theorem dL_1400 : decode code 1400 = .ok (.aload_n 1, 1) := by decide +kernel
theorem dL_1401 : decode code 1401 = .ok (.aload_n 0, 1) := by decide +kernel
theorem dL_1402 : decode code 1402 = .ok (.iload_n 3, 1) := by decide +kernel
theorem dL_1403 : decode code 1403 = .ok (.iconst 1, 1) := by decide +kernel
theorem dL_1404 : decode code 1404 = .ok (.iadd, 1) := by decide +kernel
theorem dL_1405 : decode code 1405 = .ok (.iaload, 1) := by decide +kernel
theorem dL_1406 : decode code 1406 = .ok (.aload_n 0, 1) := by decide +kernel
theorem dL_1407 : decode code 1407 = .ok (.iload_n 3, 1) := by decide +kernel
theorem dL_1408 : decode code 1408 = .ok (.iconst 2, 1) := by decide +kernel
theorem dL_1409 : decode code 1409 = .ok (.iadd, 1) := by decide +kernel
theorem dL_1410 : decode code 1410 = .ok (.iaload, 1) := by decide +kernel
theorem dL_1411 : decode code 1411 = .ok (.aload_n 0, 1) := by decide +kernel
theorem dL_1412 : decode code 1412 = .ok (.iload_n 3, 1) := by decide +kernel
theorem dL_1413 : decode code 1413 = .ok (.iconst 3, 1) := by decide +kernel
theorem dL_1414 : decode code 1414 = .ok (.iadd, 1) := by decide +kernel
theorem dL_1415 : decode code 1415 = .ok (.iaload, 1) := by decide +kernel
theorem dL_1416 : decode code 1416 = .ok (.aload_n 0, 1) := by decide +kernel
theorem dL_1417 : decode code 1417 = .ok (.iload_n 3, 1) := by decide +kernel
theorem dL_1418 : decode code 1418 = .ok (.iconst 4, 1) := by decide +kernel
theorem dL_1419 : decode code 1419 = .ok (.iadd, 1) := by decide +kernel
theorem dL_1420 : decode code 1420 = .ok (.iaload, 1) := by decide +kernel
theorem dL_1421 : decode code 1421 = .ok (.ifCond .eq 7, 3) := by decide +kernel
theorem dL_1424 : decode code 1424 = .ok (.iconst 1, 1) := by decide +kernel
theorem dL_1425 : decode code 1425 = .ok (.goto 4, 3) := by decide +kernel
theorem dL_1428 : decode code 1428 = .ok (.iconst 0, 1) := by decide +kernel
theorem dL_1429 : decode code 1429 = .ok (.invokevirtual 148, 3) := by decide +kernel
theorem dL_1432 : decode code 1432 = .ok (.aload_n 2, 1) := by decide +kernel
theorem dL_1433 : decode code 1433 = .ok (.aload_n 0, 1) := by decide +kernel
theorem dL_1434 : decode code 1434 = .ok (.iload_n 3, 1) := by decide +kernel
theorem dL_1435 : decode code 1435 = .ok (.iconst 1, 1) := by decide +kernel
theorem dL_1436 : decode code 1436 = .ok (.iadd, 1) := by decide +kernel
theorem dL_1437 : decode code 1437 = .ok (.iaload, 1) := by decide +kernel
theorem dL_1438 : decode code 1438 = .ok (.aload_n 0, 1) := by decide +kernel
theorem dL_1439 : decode code 1439 = .ok (.iload_n 3, 1) := by decide +kernel
theorem dL_1440 : decode code 1440 = .ok (.iconst 2, 1) := by decide +kernel
theorem dL_1441 : decode code 1441 = .ok (.iadd, 1) := by decide +kernel
theorem dL_1442 : decode code 1442 = .ok (.iaload, 1) := by decide +kernel
theorem dL_1443 : decode code 1443 = .ok (.aload_n 0, 1) := by decide +kernel
theorem dL_1444 : decode code 1444 = .ok (.iload_n 3, 1) := by decide +kernel
theorem dL_1445 : decode code 1445 = .ok (.iconst 3, 1) := by decide +kernel
theorem dL_1446 : decode code 1446 = .ok (.iadd, 1) := by decide +kernel
theorem dL_1447 : decode code 1447 = .ok (.iaload, 1) := by decide +kernel
theorem dL_1448 : decode code 1448 = .ok (.aload_n 0, 1) := by decide +kernel
theorem dL_1449 : decode code 1449 = .ok (.iload_n 3, 1) := by decide +kernel
theorem dL_1450 : decode code 1450 = .ok (.iconst 4, 1) := by decide +kernel
theorem dL_1451 : decode code 1451 = .ok (.iadd, 1) := by decide +kernel
theorem dL_1452 : decode code 1452 = .ok (.iaload, 1) := by decide +kernel
theorem dL_1453 : decode code 1453 = .ok (.ifCond .eq 7, 3) := by decide +kernel
theorem dL_1456 : decode code 1456 = .ok (.iconst 1, 1) := by decide +kernel
theorem dL_1457 : decode code 1457 = .ok (.goto 4, 3) := by decide +kernel
theorem dL_1460 : decode code 1460 = .ok (.iconst 0, 1) := by decide +kernel
theorem dL_1461 : decode code 1461 = .ok (.invokevirtual 151, 3) := by decide +kernel
theorem dL_1464 : decode code 1464 = .ok (.if_icmp .eq 91, 3) := by decide +kernel
theorem ml_L_148 : Cond.methodLink R_law 148 yX11_models ∈ AW := (aw_m5 99 (by decide +kernel) rfl)
theorem ml_L_151 : Cond.methodLink R_law 151 yX12_models ∈ AW := (aw_m8 7 (by decide +kernel) rfl)
set_option maxHeartbeats 4000000 in
set_option maxRecDepth 100000 in
theorem lc_32 {p : Program} {l : Launch} {e : Env} {s : State} {m : MethodId} {below : List Frame} {meth : Method} {c : Code} {H : Heap} {locs : List Loc} {cells slots : Nat} {Q : State → Prop} {g : zG} {h : HF} {ls : Array Slot} {b L : Nat} {xs : Nat → Int32} {F : Nat} {Inv : HF → Prop} (hS : PS_models F Inv) (lx : Lx p s m meth c b L xs g) (hcs : cells ≤ room_1.cells ∧ slots ≤ room_1.slots) {x : Int} (hx : 0 ≤ x ∧ x + 6 ≤ (L : Int)) (hI : Inv h) (hp : Hp g s.heap.size s h H locs) (hl : lv_has ls 4 [(0, .ref b), (1, .ref (s.heap.size + 0)), (2, .ref (s.heap.size + 181)), (3, .int (ii x))]) (kk : ∀ (h : HF) (H : Heap) (locs : List Loc), Inv h → Hp g s.heap.size s h H locs → W p l e room_1 s m #[Value.ref b] below meth c H locs cells slots Q (F0 m 1555 ls [])) : W p l e room_1 s m #[Value.ref b] below meth c H locs cells slots Q (F0 m 1400 ls []) := by
  have cx := lx.1
  obtain ⟨s1, e1⟩ : ∃ z, z = (xs (x + 1).toNat).toInt := ⟨_, rfl⟩
  have rs1 : rng s1 := by rw [e1]; exact rng_ti _
  obtain ⟨s2, e2⟩ : ∃ z, z = (xs (x + 2).toNat).toInt := ⟨_, rfl⟩
  have rs2 : rng s2 := by rw [e2]; exact rng_ti _
  obtain ⟨s3, e3⟩ : ∃ z, z = (xs (x + 3).toNat).toInt := ⟨_, rfl⟩
  have rs3 : rng s3 := by rw [e3]; exact rng_ti _
  obtain ⟨s4, e4⟩ : ∃ z, z = (xs (x + 4).toNat).toInt := ⟨_, rfl⟩
  have rs4 : rng s4 := by rw [e4]; exact rng_ti _
  by_cases hz : ii s4 = 0
  · obtain ⟨r, h1, h2, f1, f2, hI2⟩ := hS h s1 s2 s3 0 hI rs1 rs2 rs3 (Or.inl rfl)
    refine lv_aload_n cx.1 cx.2.1 dL_1400 rfl (lv_at hl 1 rfl) ?_
    refine l_arg lx hp hl (j := 1) ⟨by omega, by omega⟩ dL_1401 dL_1402 dL_1403 dL_1404 dL_1405 ?_
    rw [← e1]
    refine l_arg lx hp hl (j := 2) ⟨by omega, by omega⟩ dL_1406 dL_1407 dL_1408 dL_1409 dL_1410 ?_
    rw [← e2]
    refine l_arg lx hp hl (j := 3) ⟨by omega, by omega⟩ dL_1411 dL_1412 dL_1413 dL_1414 dL_1415 ?_
    rw [← e3]
    refine l_arg lx hp hl (j := 4) ⟨by omega, by omega⟩ dL_1416 dL_1417 dL_1418 dL_1419 dL_1420 ?_
    rw [← e4]
    refine lv_if_eq (tgt := 1428) cx.1 cx.2.1 dL_1421 (by decide) (fun _ => ?_) (fun q => absurd hz q)
    refine lv_iconst (v := ii 0) cx.1 cx.2.1 dL_1428 rfl ?_
    refine l_call (As := [.int (ii s1), .int (ii s2), .int (ii s3), .int (ii 0)]) (rest := []) cx hp (mX11_models F l g s.heap.size h 0 s1 s2 s3 0 (by decide) rs1 rs2 rs3 (by decide)) 11 (by decide) (by decide) rfl vw_X11_models ml_L_148 ⟨by decide, by decide⟩ hcs rfl hl.1 rfl (Nat.le_of_ble_eq_true rfl) dL_1429 f1 (fun H locs rr hp => ?_)
    refine lv_aload_n cx.1 cx.2.1 dL_1432 rfl (lv_at hl 2 rfl) ?_
    refine l_arg lx hp hl (j := 1) ⟨by omega, by omega⟩ dL_1433 dL_1434 dL_1435 dL_1436 dL_1437 ?_
    rw [← e1]
    refine l_arg lx hp hl (j := 2) ⟨by omega, by omega⟩ dL_1438 dL_1439 dL_1440 dL_1441 dL_1442 ?_
    rw [← e2]
    refine l_arg lx hp hl (j := 3) ⟨by omega, by omega⟩ dL_1443 dL_1444 dL_1445 dL_1446 dL_1447 ?_
    rw [← e3]
    refine l_arg lx hp hl (j := 4) ⟨by omega, by omega⟩ dL_1448 dL_1449 dL_1450 dL_1451 dL_1452 ?_
    rw [← e4]
    refine lv_if_eq (tgt := 1460) cx.1 cx.2.1 dL_1453 (by decide) (fun _ => ?_) (fun q => absurd hz q)
    refine lv_iconst (v := ii 0) cx.1 cx.2.1 dL_1460 rfl ?_
    refine l_call (As := [.int (ii s1), .int (ii s2), .int (ii s3), .int (ii 0)]) (rest := [.int (ii r)]) cx hp (mX12_models F l g s.heap.size h1 181 s1 s2 s3 0 (by decide) rs1 rs2 rs3 (by decide)) 12 (by decide) (by decide) rfl vw_X12_models ml_L_151 ⟨by decide, by decide⟩ hcs rfl hl.1 rfl (Nat.le_of_ble_eq_true rfl) dL_1461 f2 (fun H locs rr hp => ?_)
    refine lv_icmp_eq (tgt := 1555) cx.1 cx.2.1 dL_1464 (by decide) (fun _ => ?_) (fun q => absurd rfl q)
    exact kk h2 _ _ hI2 hp
  · obtain ⟨r, h1, h2, f1, f2, hI2⟩ := hS h s1 s2 s3 1 hI rs1 rs2 rs3 (Or.inr rfl)
    refine lv_aload_n cx.1 cx.2.1 dL_1400 rfl (lv_at hl 1 rfl) ?_
    refine l_arg lx hp hl (j := 1) ⟨by omega, by omega⟩ dL_1401 dL_1402 dL_1403 dL_1404 dL_1405 ?_
    rw [← e1]
    refine l_arg lx hp hl (j := 2) ⟨by omega, by omega⟩ dL_1406 dL_1407 dL_1408 dL_1409 dL_1410 ?_
    rw [← e2]
    refine l_arg lx hp hl (j := 3) ⟨by omega, by omega⟩ dL_1411 dL_1412 dL_1413 dL_1414 dL_1415 ?_
    rw [← e3]
    refine l_arg lx hp hl (j := 4) ⟨by omega, by omega⟩ dL_1416 dL_1417 dL_1418 dL_1419 dL_1420 ?_
    rw [← e4]
    refine lv_if_eq (tgt := 1428) cx.1 cx.2.1 dL_1421 (by decide) (fun q => absurd q hz) (fun _ => ?_)
    refine lv_iconst (v := ii 1) cx.1 cx.2.1 dL_1424 rfl ?_
    refine lv_goto (tgt := 1429) cx.1 cx.2.1 dL_1425 (by decide) ?_
    refine l_call (As := [.int (ii s1), .int (ii s2), .int (ii s3), .int (ii 1)]) (rest := []) cx hp (mX11_models F l g s.heap.size h 0 s1 s2 s3 1 (by decide) rs1 rs2 rs3 (by decide)) 11 (by decide) (by decide) rfl vw_X11_models ml_L_148 ⟨by decide, by decide⟩ hcs rfl hl.1 rfl (Nat.le_of_ble_eq_true rfl) dL_1429 f1 (fun H locs rr hp => ?_)
    refine lv_aload_n cx.1 cx.2.1 dL_1432 rfl (lv_at hl 2 rfl) ?_
    refine l_arg lx hp hl (j := 1) ⟨by omega, by omega⟩ dL_1433 dL_1434 dL_1435 dL_1436 dL_1437 ?_
    rw [← e1]
    refine l_arg lx hp hl (j := 2) ⟨by omega, by omega⟩ dL_1438 dL_1439 dL_1440 dL_1441 dL_1442 ?_
    rw [← e2]
    refine l_arg lx hp hl (j := 3) ⟨by omega, by omega⟩ dL_1443 dL_1444 dL_1445 dL_1446 dL_1447 ?_
    rw [← e3]
    refine l_arg lx hp hl (j := 4) ⟨by omega, by omega⟩ dL_1448 dL_1449 dL_1450 dL_1451 dL_1452 ?_
    rw [← e4]
    refine lv_if_eq (tgt := 1460) cx.1 cx.2.1 dL_1453 (by decide) (fun q => absurd q hz) (fun _ => ?_)
    refine lv_iconst (v := ii 1) cx.1 cx.2.1 dL_1456 rfl ?_
    refine lv_goto (tgt := 1461) cx.1 cx.2.1 dL_1457 (by decide) ?_
    refine l_call (As := [.int (ii s1), .int (ii s2), .int (ii s3), .int (ii 1)]) (rest := [.int (ii r)]) cx hp (mX12_models F l g s.heap.size h1 181 s1 s2 s3 1 (by decide) rs1 rs2 rs3 (by decide)) 12 (by decide) (by decide) rfl vw_X12_models ml_L_151 ⟨by decide, by decide⟩ hcs rfl hl.1 rfl (Nat.le_of_ble_eq_true rfl) dL_1461 f2 (fun H locs rr hp => ?_)
    refine lv_icmp_eq (tgt := 1555) cx.1 cx.2.1 dL_1464 (by decide) (fun _ => ?_) (fun q => absurd rfl q)
    exact kk h2 _ _ hI2 hp
theorem dL_1469 : decode code 1469 = .ok (.aload_n 1, 1) := by decide +kernel
theorem dL_1470 : decode code 1470 = .ok (.aload_n 0, 1) := by decide +kernel
theorem dL_1471 : decode code 1471 = .ok (.iload_n 3, 1) := by decide +kernel
theorem dL_1472 : decode code 1472 = .ok (.iconst 1, 1) := by decide +kernel
theorem dL_1473 : decode code 1473 = .ok (.iadd, 1) := by decide +kernel
theorem dL_1474 : decode code 1474 = .ok (.iaload, 1) := by decide +kernel
theorem dL_1475 : decode code 1475 = .ok (.aload_n 0, 1) := by decide +kernel
theorem dL_1476 : decode code 1476 = .ok (.iload_n 3, 1) := by decide +kernel
theorem dL_1477 : decode code 1477 = .ok (.iconst 2, 1) := by decide +kernel
theorem dL_1478 : decode code 1478 = .ok (.iadd, 1) := by decide +kernel
theorem dL_1479 : decode code 1479 = .ok (.iaload, 1) := by decide +kernel
theorem dL_1480 : decode code 1480 = .ok (.aload_n 0, 1) := by decide +kernel
theorem dL_1481 : decode code 1481 = .ok (.iload_n 3, 1) := by decide +kernel
theorem dL_1482 : decode code 1482 = .ok (.iconst 3, 1) := by decide +kernel
theorem dL_1483 : decode code 1483 = .ok (.iadd, 1) := by decide +kernel
theorem dL_1484 : decode code 1484 = .ok (.iaload, 1) := by decide +kernel
theorem dL_1485 : decode code 1485 = .ok (.aload_n 0, 1) := by decide +kernel
theorem dL_1486 : decode code 1486 = .ok (.iload_n 3, 1) := by decide +kernel
theorem dL_1487 : decode code 1487 = .ok (.iconst 4, 1) := by decide +kernel
theorem dL_1488 : decode code 1488 = .ok (.iadd, 1) := by decide +kernel
theorem dL_1489 : decode code 1489 = .ok (.iaload, 1) := by decide +kernel
theorem dL_1490 : decode code 1490 = .ok (.aload_n 0, 1) := by decide +kernel
theorem dL_1491 : decode code 1491 = .ok (.iload_n 3, 1) := by decide +kernel
theorem dL_1492 : decode code 1492 = .ok (.iconst 5, 1) := by decide +kernel
theorem dL_1493 : decode code 1493 = .ok (.iadd, 1) := by decide +kernel
theorem dL_1494 : decode code 1494 = .ok (.iaload, 1) := by decide +kernel
theorem dL_1495 : decode code 1495 = .ok (.invokevirtual 152, 3) := by decide +kernel
theorem dL_1498 : decode code 1498 = .ok (.aload_n 2, 1) := by decide +kernel
theorem dL_1499 : decode code 1499 = .ok (.aload_n 0, 1) := by decide +kernel
theorem dL_1500 : decode code 1500 = .ok (.iload_n 3, 1) := by decide +kernel
theorem dL_1501 : decode code 1501 = .ok (.iconst 1, 1) := by decide +kernel
theorem dL_1502 : decode code 1502 = .ok (.iadd, 1) := by decide +kernel
theorem dL_1503 : decode code 1503 = .ok (.iaload, 1) := by decide +kernel
theorem dL_1504 : decode code 1504 = .ok (.aload_n 0, 1) := by decide +kernel
theorem dL_1505 : decode code 1505 = .ok (.iload_n 3, 1) := by decide +kernel
theorem dL_1506 : decode code 1506 = .ok (.iconst 2, 1) := by decide +kernel
theorem dL_1507 : decode code 1507 = .ok (.iadd, 1) := by decide +kernel
theorem dL_1508 : decode code 1508 = .ok (.iaload, 1) := by decide +kernel
theorem dL_1509 : decode code 1509 = .ok (.aload_n 0, 1) := by decide +kernel
theorem dL_1510 : decode code 1510 = .ok (.iload_n 3, 1) := by decide +kernel
theorem dL_1511 : decode code 1511 = .ok (.iconst 3, 1) := by decide +kernel
theorem dL_1512 : decode code 1512 = .ok (.iadd, 1) := by decide +kernel
theorem dL_1513 : decode code 1513 = .ok (.iaload, 1) := by decide +kernel
theorem dL_1514 : decode code 1514 = .ok (.aload_n 0, 1) := by decide +kernel
theorem dL_1515 : decode code 1515 = .ok (.iload_n 3, 1) := by decide +kernel
theorem dL_1516 : decode code 1516 = .ok (.iconst 4, 1) := by decide +kernel
theorem dL_1517 : decode code 1517 = .ok (.iadd, 1) := by decide +kernel
theorem dL_1518 : decode code 1518 = .ok (.iaload, 1) := by decide +kernel
theorem dL_1519 : decode code 1519 = .ok (.aload_n 0, 1) := by decide +kernel
theorem dL_1520 : decode code 1520 = .ok (.iload_n 3, 1) := by decide +kernel
theorem dL_1521 : decode code 1521 = .ok (.iconst 5, 1) := by decide +kernel
theorem dL_1522 : decode code 1522 = .ok (.iadd, 1) := by decide +kernel
theorem dL_1523 : decode code 1523 = .ok (.iaload, 1) := by decide +kernel
theorem dL_1524 : decode code 1524 = .ok (.invokevirtual 155, 3) := by decide +kernel
theorem dL_1527 : decode code 1527 = .ok (.if_icmp .eq 28, 3) := by decide +kernel
theorem ml_L_152 : Cond.methodLink R_law 152 yX11_model ∈ AW := (aw_m5 127 (by decide +kernel) rfl)
theorem ml_L_155 : Cond.methodLink R_law 155 yX12_model ∈ AW := (aw_m8 28 (by decide +kernel) rfl)
set_option maxHeartbeats 4000000 in
set_option maxRecDepth 100000 in
theorem lc_33 {p : Program} {l : Launch} {e : Env} {s : State} {m : MethodId} {below : List Frame} {meth : Method} {c : Code} {H : Heap} {locs : List Loc} {cells slots : Nat} {Q : State → Prop} {g : zG} {h : HF} {ls : Array Slot} {b L : Nat} {xs : Nat → Int32} {F : Nat} {Inv : HF → Prop} (hS : PS_model F Inv) (lx : Lx p s m meth c b L xs g) (hcs : cells ≤ room_1.cells ∧ slots ≤ room_1.slots) {x : Int} (hx : 0 ≤ x ∧ x + 6 ≤ (L : Int)) (hI : Inv h) (hp : Hp g s.heap.size s h H locs) (hl : lv_has ls 4 [(0, .ref b), (1, .ref (s.heap.size + 0)), (2, .ref (s.heap.size + 181)), (3, .int (ii x))]) (kk : ∀ (h : HF) (H : Heap) (locs : List Loc), Inv h → Hp g s.heap.size s h H locs → W p l e room_1 s m #[Value.ref b] below meth c H locs cells slots Q (F0 m 1555 ls [])) : W p l e room_1 s m #[Value.ref b] below meth c H locs cells slots Q (F0 m 1469 ls []) := by
  have cx := lx.1
  obtain ⟨s1, e1⟩ : ∃ z, z = (xs (x + 1).toNat).toInt := ⟨_, rfl⟩
  have rs1 : rng s1 := by rw [e1]; exact rng_ti _
  obtain ⟨s2, e2⟩ : ∃ z, z = (xs (x + 2).toNat).toInt := ⟨_, rfl⟩
  have rs2 : rng s2 := by rw [e2]; exact rng_ti _
  obtain ⟨s3, e3⟩ : ∃ z, z = (xs (x + 3).toNat).toInt := ⟨_, rfl⟩
  have rs3 : rng s3 := by rw [e3]; exact rng_ti _
  obtain ⟨s4, e4⟩ : ∃ z, z = (xs (x + 4).toNat).toInt := ⟨_, rfl⟩
  have rs4 : rng s4 := by rw [e4]; exact rng_ti _
  obtain ⟨s5, e5⟩ : ∃ z, z = (xs (x + 5).toNat).toInt := ⟨_, rfl⟩
  have rs5 : rng s5 := by rw [e5]; exact rng_ti _
  obtain ⟨r, h1, h2, f1, f2, hI2⟩ := hS h s1 s2 s3 s4 s5 hI rs1 rs2 rs3 rs4 rs5
  refine lv_aload_n cx.1 cx.2.1 dL_1469 rfl (lv_at hl 1 rfl) ?_
  refine l_arg lx hp hl (j := 1) ⟨by omega, by omega⟩ dL_1470 dL_1471 dL_1472 dL_1473 dL_1474 ?_
  rw [← e1]
  refine l_arg lx hp hl (j := 2) ⟨by omega, by omega⟩ dL_1475 dL_1476 dL_1477 dL_1478 dL_1479 ?_
  rw [← e2]
  refine l_arg lx hp hl (j := 3) ⟨by omega, by omega⟩ dL_1480 dL_1481 dL_1482 dL_1483 dL_1484 ?_
  rw [← e3]
  refine l_arg lx hp hl (j := 4) ⟨by omega, by omega⟩ dL_1485 dL_1486 dL_1487 dL_1488 dL_1489 ?_
  rw [← e4]
  refine l_arg lx hp hl (j := 5) ⟨by omega, by omega⟩ dL_1490 dL_1491 dL_1492 dL_1493 dL_1494 ?_
  rw [← e5]
  refine l_call (As := [.int (ii s1), .int (ii s2), .int (ii s3), .int (ii s4), .int (ii s5)]) (rest := []) cx hp (mX11_model F l g s.heap.size h 0 s1 s2 s3 s4 s5 (by decide) rs1 rs2 rs3 rs4 rs5) 11 (by decide) (by decide) rfl vw_X11_model ml_L_152 ⟨by decide, by decide⟩ hcs rfl hl.1 rfl (Nat.le_of_ble_eq_true rfl) dL_1495 f1 (fun H locs rr hp => ?_)
  refine lv_aload_n cx.1 cx.2.1 dL_1498 rfl (lv_at hl 2 rfl) ?_
  refine l_arg lx hp hl (j := 1) ⟨by omega, by omega⟩ dL_1499 dL_1500 dL_1501 dL_1502 dL_1503 ?_
  rw [← e1]
  refine l_arg lx hp hl (j := 2) ⟨by omega, by omega⟩ dL_1504 dL_1505 dL_1506 dL_1507 dL_1508 ?_
  rw [← e2]
  refine l_arg lx hp hl (j := 3) ⟨by omega, by omega⟩ dL_1509 dL_1510 dL_1511 dL_1512 dL_1513 ?_
  rw [← e3]
  refine l_arg lx hp hl (j := 4) ⟨by omega, by omega⟩ dL_1514 dL_1515 dL_1516 dL_1517 dL_1518 ?_
  rw [← e4]
  refine l_arg lx hp hl (j := 5) ⟨by omega, by omega⟩ dL_1519 dL_1520 dL_1521 dL_1522 dL_1523 ?_
  rw [← e5]
  refine l_call (As := [.int (ii s1), .int (ii s2), .int (ii s3), .int (ii s4), .int (ii s5)]) (rest := [.int (ii r)]) cx hp (mX12_model F l g s.heap.size h1 181 s1 s2 s3 s4 s5 (by decide) rs1 rs2 rs3 rs4 rs5) 12 (by decide) (by decide) rfl vw_X12_model ml_L_155 ⟨by decide, by decide⟩ hcs rfl hl.1 rfl (Nat.le_of_ble_eq_true rfl) dL_1524 f2 (fun H locs rr hp => ?_)
  refine lv_icmp_eq (tgt := 1555) cx.1 cx.2.1 dL_1527 (by decide) (fun _ => ?_) (fun q => absurd rfl q)
  exact kk h2 _ _ hI2 hp
theorem dL_1532 : decode code 1532 = .ok (.aload_n 1, 1) := by decide +kernel
theorem dL_1533 : decode code 1533 = .ok (.aload_n 0, 1) := by decide +kernel
theorem dL_1534 : decode code 1534 = .ok (.iload_n 3, 1) := by decide +kernel
theorem dL_1535 : decode code 1535 = .ok (.iconst 1, 1) := by decide +kernel
theorem dL_1536 : decode code 1536 = .ok (.iadd, 1) := by decide +kernel
theorem dL_1537 : decode code 1537 = .ok (.iaload, 1) := by decide +kernel
theorem dL_1538 : decode code 1538 = .ok (.invokevirtual 156, 3) := by decide +kernel
theorem dL_1541 : decode code 1541 = .ok (.aload_n 2, 1) := by decide +kernel
theorem dL_1542 : decode code 1542 = .ok (.aload_n 0, 1) := by decide +kernel
theorem dL_1543 : decode code 1543 = .ok (.iload_n 3, 1) := by decide +kernel
theorem dL_1544 : decode code 1544 = .ok (.iconst 1, 1) := by decide +kernel
theorem dL_1545 : decode code 1545 = .ok (.iadd, 1) := by decide +kernel
theorem dL_1546 : decode code 1546 = .ok (.iaload, 1) := by decide +kernel
theorem dL_1547 : decode code 1547 = .ok (.invokevirtual 159, 3) := by decide +kernel
theorem dL_1550 : decode code 1550 = .ok (.if_icmp .eq 5, 3) := by decide +kernel
theorem ml_L_156 : Cond.methodLink R_law 156 yX11_count ∈ AW := (aw_m5 131 (by decide +kernel) rfl)
theorem ml_L_159 : Cond.methodLink R_law 159 yX12_count ∈ AW := (aw_m8 32 (by decide +kernel) rfl)
set_option maxHeartbeats 4000000 in
set_option maxRecDepth 100000 in
theorem lc_34 {p : Program} {l : Launch} {e : Env} {s : State} {m : MethodId} {below : List Frame} {meth : Method} {c : Code} {H : Heap} {locs : List Loc} {cells slots : Nat} {Q : State → Prop} {g : zG} {h : HF} {ls : Array Slot} {b L : Nat} {xs : Nat → Int32} {F : Nat} {Inv : HF → Prop} (hS : PS_count F Inv) (lx : Lx p s m meth c b L xs g) (hcs : cells ≤ room_1.cells ∧ slots ≤ room_1.slots) {x : Int} (hx : 0 ≤ x ∧ x + 6 ≤ (L : Int)) (hI : Inv h) (hp : Hp g s.heap.size s h H locs) (hl : lv_has ls 4 [(0, .ref b), (1, .ref (s.heap.size + 0)), (2, .ref (s.heap.size + 181)), (3, .int (ii x))]) (kk : ∀ (h : HF) (H : Heap) (locs : List Loc), Inv h → Hp g s.heap.size s h H locs → W p l e room_1 s m #[Value.ref b] below meth c H locs cells slots Q (F0 m 1555 ls [])) : W p l e room_1 s m #[Value.ref b] below meth c H locs cells slots Q (F0 m 1532 ls []) := by
  have cx := lx.1
  obtain ⟨s1, e1⟩ : ∃ z, z = (xs (x + 1).toNat).toInt := ⟨_, rfl⟩
  have rs1 : rng s1 := by rw [e1]; exact rng_ti _
  obtain ⟨r, h1, h2, f1, f2, hI2⟩ := hS h s1 hI rs1
  refine lv_aload_n cx.1 cx.2.1 dL_1532 rfl (lv_at hl 1 rfl) ?_
  refine l_arg lx hp hl (j := 1) ⟨by omega, by omega⟩ dL_1533 dL_1534 dL_1535 dL_1536 dL_1537 ?_
  rw [← e1]
  refine l_call (As := [.int (ii s1)]) (rest := []) cx hp (mX11_count F l g s.heap.size h 0 s1 (by decide) rs1) 11 (by decide) (by decide) rfl vw_X11_count ml_L_156 ⟨by decide, by decide⟩ hcs rfl hl.1 rfl (Nat.le_of_ble_eq_true rfl) dL_1538 f1 (fun H locs rr hp => ?_)
  refine lv_aload_n cx.1 cx.2.1 dL_1541 rfl (lv_at hl 2 rfl) ?_
  refine l_arg lx hp hl (j := 1) ⟨by omega, by omega⟩ dL_1542 dL_1543 dL_1544 dL_1545 dL_1546 ?_
  rw [← e1]
  refine l_call (As := [.int (ii s1)]) (rest := [.int (ii r)]) cx hp (mX12_count F l g s.heap.size h1 181 s1 (by decide) rs1) 12 (by decide) (by decide) rfl vw_X12_count ml_L_159 ⟨by decide, by decide⟩ hcs rfl hl.1 rfl (Nat.le_of_ble_eq_true rfl) dL_1547 f2 (fun H locs rr hp => ?_)
  refine lv_icmp_eq (tgt := 1555) cx.1 cx.2.1 dL_1550 (by decide) (fun _ => ?_) (fun q => absurd rfl q)
  exact kk h2 _ _ hI2 hp
