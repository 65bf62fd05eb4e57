set_option maxRecDepth 20000 in
set_option maxHeartbeats 2000000 in
theorem w_tell {z : Zx} {B : Bx} {b L j F : Nat} {xs : Nat → Int32} {Q : State → Prop} {μ ν μ' ν' : Mm} {r : Int32} {σ : Nat} {v : Bool} {C : Nat × Nat} (hg : Og z B code 4 "RopeDanceLaw" (some .boolean) 13 TL) (hX : va_X b L xs (zs z) (zs z).heap) (hb : b < (zs z).heap.size) (hj : j + 6 ≤ L) (hL : L ≤ 3072) (hs : σ < 5) (hv : v = vσ σ ∨ σ = 0) (hC : C.1 ≤ 600000 ∧ C.2 ≤ 7302250) (f1 : fX11_tell F (xs (j + 1)) (xs (j + 2)) (nz01 (xs (j + 3))) μ = some (r, μ')) (f2 : fX12_tell F (xs (j + 1)) (xs (j + 2)) (nz01 (xs (j + 3))) ν = some (r, ν')) (hz : nz σ μ') (kk : Gq z (kC B σ v ν') 4 Q (C) 1457 μ' (lvL B v b (Int32.ofNat j)) []) : Gq z (kC B σ v ν) 4 Q (C) 1220 μ (lvL B v b (Int32.ofNat j)) [] := by
  have h0 := hg.2.2.2.2.2.2.2.2.2.1
  refine r_aloadn (okC hg hs hv) 2 rfl rfl dL_1220 ?_
  refine l_arg (okC hg hs hv) hX (nFC h0 hb) rfl rfl hj hL 1 (by decide) (y := 1) (by decide) (by decide) dL_1221 dL_1222 dL_1223 dL_1224 dL_1225 ?_
  refine l_arg (okC hg hs hv) hX (nFC h0 hb) rfl rfl hj hL 2 (by decide) (y := 2) (by decide) (by decide) dL_1226 dL_1227 dL_1228 dL_1229 dL_1230 ?_
  refine l_arg (okC hg hs hv) hX (nFC h0 hb) rfl rfl hj hL 3 (by decide) (y := 3) (by decide) (by decide) dL_1231 dL_1232 dL_1233 dL_1234 dL_1235 ?_
  refine l_bool (okC hg hs hv) dL_1236 dL_1239 dL_1240 dL_1243 ?_
  refine r_callV (okC hg hs hv) (As := [.int (xs (j + 1)), .int (xs (j + 2)), .int (nz01 (xs (j + 3)))]) (rest := []) (st1 := [.int r]) (c := 11) (i := 0) (TT := T11) (N := 12) MK_X11_tell rfl wi_X11_tell we_X11_tell wm_L_150 hC (cX11_tell (kC_ok hs hv) (e11 _ hs) f1) (e11 _ hs) (Nat.le_of_ble_eq_true rfl) rfl rfl (Nat.le_of_ble_eq_true rfl) rfl dL_1244 (fun _ => ?_)
  refine l_CM ?_
  refine r_aloadn (okM hg hs hv) 1 rfl rfl dL_1247 ?_
  refine l_arg (okM hg hs hv) hX (nFM h0 hb) rfl rfl hj hL 1 (by decide) (y := 1) (by decide) (by decide) dL_1248 dL_1249 dL_1250 dL_1251 dL_1252 ?_
  refine l_arg (okM hg hs hv) hX (nFM h0 hb) rfl rfl hj hL 2 (by decide) (y := 2) (by decide) (by decide) dL_1253 dL_1254 dL_1255 dL_1256 dL_1257 ?_
  refine l_arg (okM hg hs hv) hX (nFM h0 hb) rfl rfl hj hL 3 (by decide) (y := 3) (by decide) (by decide) dL_1258 dL_1259 dL_1260 dL_1261 dL_1262 ?_
  refine l_bool (okM hg hs hv) dL_1263 dL_1266 dL_1267 dL_1270 ?_
  refine r_callV (okM hg hs hv) (As := [.int (xs (j + 1)), .int (xs (j + 2)), .int (nz01 (xs (j + 3)))]) (rest := [.int r]) (st1 := [.int r, .int r]) (c := 12) (i := 0) (TT := T12) (N := 75) MK_X12_tell rfl wi_X12_tell we_X12_tell wm_L_154 hC (cX12_tell (kM_ok hs hv) e12 f2) e12 (Nat.le_of_ble_eq_true rfl) rfl rfl (Nat.le_of_ble_eq_true rfl) rfl dL_1271 (fun _ => ?_)
  refine l_MC hs hz ?_
  exact r_iceq (okC hg hs hv) (tgt := 1457) (by decide) dL_1274 (fun _ => kk) (fun q => absurd rfl q)
set_option maxRecDepth 20000 in
set_option maxHeartbeats 2000000 in
theorem w_forget {z : Zx} {B : Bx} {b L j F : Nat} {xs : Nat → Int32} {Q : State → Prop} {μ ν μ' ν' : Mm} {r : Int32} {σ : Nat} {v : Bool} {C : Nat × Nat} (hg : Og z B code 4 "RopeDanceLaw" (some .boolean) 13 TL) (hX : va_X b L xs (zs z) (zs z).heap) (hb : b < (zs z).heap.size) (hj : j + 6 ≤ L) (hL : L ≤ 3072) (hs : σ < 5) (hv : v = vσ σ ∨ σ = 0) (hC : C.1 ≤ 600000 ∧ C.2 ≤ 7302250) (f1 : fX11_forget F μ = some (r, μ')) (f2 : fX12_forget F ν = some (r, ν')) (hz : nz σ μ') (kk : Gq z (kC B σ v ν') 4 Q (C) 1457 μ' (lvL B v b (Int32.ofNat j)) []) : Gq z (kC B σ v ν) 4 Q (C) 1279 μ (lvL B v b (Int32.ofNat j)) [] := by
  have h0 := hg.2.2.2.2.2.2.2.2.2.1
  refine r_aloadn (okC hg hs hv) 2 rfl rfl dL_1279 ?_
  refine r_callV (okC hg hs hv) (As := []) (rest := []) (st1 := [.int r]) (c := 11) (i := 0) (TT := T11) (N := 12) MK_X11_forget rfl wi_X11_forget we_X11_forget wm_L_155 hC (cX11_forget (kC_ok hs hv) (e11 _ hs) f1) (e11 _ hs) (Nat.le_of_ble_eq_true rfl) rfl rfl (Nat.le_of_ble_eq_true rfl) rfl dL_1280 (fun _ => ?_)
  refine l_CM ?_
  refine r_aloadn (okM hg hs hv) 1 rfl rfl dL_1283 ?_
  refine r_callV (okM hg hs hv) (As := []) (rest := [.int r]) (st1 := [.int r, .int r]) (c := 12) (i := 0) (TT := T12) (N := 75) MK_X12_forget rfl wi_X12_forget we_X12_forget wm_L_158 hC (cX12_forget (kM_ok hs hv) e12 f2) e12 (Nat.le_of_ble_eq_true rfl) rfl rfl (Nat.le_of_ble_eq_true rfl) rfl dL_1284 (fun _ => ?_)
  refine l_MC hs hz ?_
  exact r_iceq (okC hg hs hv) (tgt := 1457) (by decide) dL_1287 (fun _ => kk) (fun q => absurd rfl q)
set_option maxRecDepth 20000 in
set_option maxHeartbeats 2000000 in
theorem w_rows {z : Zx} {B : Bx} {b L j F : Nat} {xs : Nat → Int32} {Q : State → Prop} {μ ν μ' ν' : Mm} {r : Int32} {σ : Nat} {v : Bool} {C : Nat × Nat} (hg : Og z B code 4 "RopeDanceLaw" (some .boolean) 13 TL) (hX : va_X b L xs (zs z) (zs z).heap) (hb : b < (zs z).heap.size) (hj : j + 6 ≤ L) (hL : L ≤ 3072) (hs : σ < 5) (hv : v = vσ σ ∨ σ = 0) (hC : C.1 ≤ 600000 ∧ C.2 ≤ 7302250) (f1 : fX11_rows F (xs (j + 1)) (xs (j + 2)) (xs (j + 3)) (xs (j + 4)) μ = some (r, μ')) (f2 : fX12_rows F (xs (j + 1)) (xs (j + 2)) (xs (j + 3)) (xs (j + 4)) ν = some (r, ν')) (hz : nz σ μ') (kk : Gq z (kC B σ v ν') 4 Q (C) 1457 μ' (lvL B v b (Int32.ofNat j)) []) : Gq z (kC B σ v ν) 4 Q (C) 1292 μ (lvL B v b (Int32.ofNat j)) [] := by
  have h0 := hg.2.2.2.2.2.2.2.2.2.1
  refine r_aloadn (okC hg hs hv) 2 rfl rfl dL_1292 ?_
  refine l_arg (okC hg hs hv) hX (nFC h0 hb) rfl rfl hj hL 1 (by decide) (y := 1) (by decide) (by decide) dL_1293 dL_1294 dL_1295 dL_1296 dL_1297 ?_
  refine l_arg (okC hg hs hv) hX (nFC h0 hb) rfl rfl hj hL 2 (by decide) (y := 2) (by decide) (by decide) dL_1298 dL_1299 dL_1300 dL_1301 dL_1302 ?_
  refine l_arg (okC hg hs hv) hX (nFC h0 hb) rfl rfl hj hL 3 (by decide) (y := 3) (by decide) (by decide) dL_1303 dL_1304 dL_1305 dL_1306 dL_1307 ?_
  refine l_arg (okC hg hs hv) hX (nFC h0 hb) rfl rfl hj hL 4 (by decide) (y := 4) (by decide) (by decide) dL_1308 dL_1309 dL_1310 dL_1311 dL_1312 ?_
  refine r_callV (okC hg hs hv) (As := [.int (xs (j + 1)), .int (xs (j + 2)), .int (xs (j + 3)), .int (xs (j + 4))]) (rest := []) (st1 := [.int r]) (c := 11) (i := 0) (TT := T11) (N := 12) MK_X11_rows rfl wi_X11_rows we_X11_rows wm_L_159 hC (cX11_rows (kC_ok hs hv) (e11 _ hs) f1) (e11 _ hs) (Nat.le_of_ble_eq_true rfl) rfl rfl (Nat.le_of_ble_eq_true rfl) rfl dL_1313 (fun _ => ?_)
  refine l_CM ?_
  refine r_aloadn (okM hg hs hv) 1 rfl rfl dL_1316 ?_
  refine l_arg (okM hg hs hv) hX (nFM h0 hb) rfl rfl hj hL 1 (by decide) (y := 1) (by decide) (by decide) dL_1317 dL_1318 dL_1319 dL_1320 dL_1321 ?_
  refine l_arg (okM hg hs hv) hX (nFM h0 hb) rfl rfl hj hL 2 (by decide) (y := 2) (by decide) (by decide) dL_1322 dL_1323 dL_1324 dL_1325 dL_1326 ?_
  refine l_arg (okM hg hs hv) hX (nFM h0 hb) rfl rfl hj hL 3 (by decide) (y := 3) (by decide) (by decide) dL_1327 dL_1328 dL_1329 dL_1330 dL_1331 ?_
  refine l_arg (okM hg hs hv) hX (nFM h0 hb) rfl rfl hj hL 4 (by decide) (y := 4) (by decide) (by decide) dL_1332 dL_1333 dL_1334 dL_1335 dL_1336 ?_
  refine r_callV (okM hg hs hv) (As := [.int (xs (j + 1)), .int (xs (j + 2)), .int (xs (j + 3)), .int (xs (j + 4))]) (rest := [.int r]) (st1 := [.int r, .int r]) (c := 12) (i := 0) (TT := T12) (N := 75) MK_X12_rows rfl wi_X12_rows we_X12_rows wm_L_162 hC (cX12_rows (kM_ok hs hv) e12 f2) e12 (Nat.le_of_ble_eq_true rfl) rfl rfl (Nat.le_of_ble_eq_true rfl) rfl dL_1337 (fun _ => ?_)
  refine l_MC hs hz ?_
  exact r_iceq (okC hg hs hv) (tgt := 1457) (by decide) dL_1340 (fun _ => kk) (fun q => absurd rfl q)
set_option maxRecDepth 20000 in
set_option maxHeartbeats 2000000 in
theorem w_listen {z : Zx} {B : Bx} {b L j F : Nat} {xs : Nat → Int32} {Q : State → Prop} {μ ν μ' ν' : Mm} {r : Int32} {σ : Nat} {v : Bool} {C : Nat × Nat} (hg : Og z B code 4 "RopeDanceLaw" (some .boolean) 13 TL) (hX : va_X b L xs (zs z) (zs z).heap) (hb : b < (zs z).heap.size) (hj : j + 6 ≤ L) (hL : L ≤ 3072) (hs : σ < 5) (hv : v = vσ σ ∨ σ = 0) (hC : C.1 ≤ 600000 ∧ C.2 ≤ 7302250) (f1 : fX11_listen F (xs (j + 1)) (xs (j + 2)) (xs (j + 3)) μ = some (r, μ')) (f2 : fX12_listen F (xs (j + 1)) (xs (j + 2)) (xs (j + 3)) ν = some (r, ν')) (hz : nz σ μ') (kk : Gq z (kC B σ v ν') 4 Q (C) 1457 μ' (lvL B v b (Int32.ofNat j)) []) : Gq z (kC B σ v ν) 4 Q (C) 1345 μ (lvL B v b (Int32.ofNat j)) [] := by
  have h0 := hg.2.2.2.2.2.2.2.2.2.1
  refine r_aloadn (okC hg hs hv) 2 rfl rfl dL_1345 ?_
  refine l_arg (okC hg hs hv) hX (nFC h0 hb) rfl rfl hj hL 1 (by decide) (y := 1) (by decide) (by decide) dL_1346 dL_1347 dL_1348 dL_1349 dL_1350 ?_
  refine l_arg (okC hg hs hv) hX (nFC h0 hb) rfl rfl hj hL 2 (by decide) (y := 2) (by decide) (by decide) dL_1351 dL_1352 dL_1353 dL_1354 dL_1355 ?_
  refine l_arg (okC hg hs hv) hX (nFC h0 hb) rfl rfl hj hL 3 (by decide) (y := 3) (by decide) (by decide) dL_1356 dL_1357 dL_1358 dL_1359 dL_1360 ?_
  refine r_callV (okC hg hs hv) (As := [.int (xs (j + 1)), .int (xs (j + 2)), .int (xs (j + 3))]) (rest := []) (st1 := [.int r]) (c := 11) (i := 0) (TT := T11) (N := 12) MK_X11_listen rfl wi_X11_listen we_X11_listen wm_L_163 hC (cX11_listen (kC_ok hs hv) (e11 _ hs) f1) (e11 _ hs) (Nat.le_of_ble_eq_true rfl) rfl rfl (Nat.le_of_ble_eq_true rfl) rfl dL_1361 (fun _ => ?_)
  refine l_CM ?_
  refine r_aloadn (okM hg hs hv) 1 rfl rfl dL_1364 ?_
  refine l_arg (okM hg hs hv) hX (nFM h0 hb) rfl rfl hj hL 1 (by decide) (y := 1) (by decide) (by decide) dL_1365 dL_1366 dL_1367 dL_1368 dL_1369 ?_
  refine l_arg (okM hg hs hv) hX (nFM h0 hb) rfl rfl hj hL 2 (by decide) (y := 2) (by decide) (by decide) dL_1370 dL_1371 dL_1372 dL_1373 dL_1374 ?_
  refine l_arg (okM hg hs hv) hX (nFM h0 hb) rfl rfl hj hL 3 (by decide) (y := 3) (by decide) (by decide) dL_1375 dL_1376 dL_1377 dL_1378 dL_1379 ?_
  refine r_callV (okM hg hs hv) (As := [.int (xs (j + 1)), .int (xs (j + 2)), .int (xs (j + 3))]) (rest := [.int r]) (st1 := [.int r, .int r]) (c := 12) (i := 0) (TT := T12) (N := 75) MK_X12_listen rfl wi_X12_listen we_X12_listen wm_L_166 hC (cX12_listen (kM_ok hs hv) e12 f2) e12 (Nat.le_of_ble_eq_true rfl) rfl rfl (Nat.le_of_ble_eq_true rfl) rfl dL_1380 (fun _ => ?_)
  refine l_MC hs hz ?_
  exact r_iceq (okC hg hs hv) (tgt := 1457) (by decide) dL_1383 (fun _ => kk) (fun q => absurd rfl q)
set_option maxRecDepth 20000 in
set_option maxHeartbeats 2000000 in
theorem w_hold {z : Zx} {B : Bx} {b L j F : Nat} {xs : Nat → Int32} {Q : State → Prop} {μ ν μ' ν' : Mm} {r : Int32} {σ : Nat} {v : Bool} {C : Nat × Nat} (hg : Og z B code 4 "RopeDanceLaw" (some .boolean) 13 TL) (hX : va_X b L xs (zs z) (zs z).heap) (hb : b < (zs z).heap.size) (hj : j + 6 ≤ L) (hL : L ≤ 3072) (hs : σ < 5) (hv : v = vσ σ ∨ σ = 0) (hC : C.1 ≤ 600000 ∧ C.2 ≤ 7302250) (f1 : fX11_hold F (xs (j + 1)) μ = some (r, μ')) (f2 : fX12_hold F (xs (j + 1)) ν = some (r, ν')) (hz : nz σ μ') (kk : Gq z (kC B σ v ν') 4 Q (C) 1457 μ' (lvL B v b (Int32.ofNat j)) []) : Gq z (kC B σ v ν) 4 Q (C) 1388 μ (lvL B v b (Int32.ofNat j)) [] := by
  have h0 := hg.2.2.2.2.2.2.2.2.2.1
  refine r_aloadn (okC hg hs hv) 2 rfl rfl dL_1388 ?_
  refine l_arg (okC hg hs hv) hX (nFC h0 hb) rfl rfl hj hL 1 (by decide) (y := 1) (by decide) (by decide) dL_1389 dL_1390 dL_1391 dL_1392 dL_1393 ?_
  refine r_callV (okC hg hs hv) (As := [.int (xs (j + 1))]) (rest := []) (st1 := [.int r]) (c := 11) (i := 0) (TT := T11) (N := 12) MK_X11_hold rfl wi_X11_hold we_X11_hold wm_L_167 hC (cX11_hold (kC_ok hs hv) (e11 _ hs) f1) (e11 _ hs) (Nat.le_of_ble_eq_true rfl) rfl rfl (Nat.le_of_ble_eq_true rfl) rfl dL_1394 (fun _ => ?_)
  refine l_CM ?_
  refine r_aloadn (okM hg hs hv) 1 rfl rfl dL_1397 ?_
  refine l_arg (okM hg hs hv) hX (nFM h0 hb) rfl rfl hj hL 1 (by decide) (y := 1) (by decide) (by decide) dL_1398 dL_1399 dL_1400 dL_1401 dL_1402 ?_
  refine r_callV (okM hg hs hv) (As := [.int (xs (j + 1))]) (rest := [.int r]) (st1 := [.int r, .int r]) (c := 12) (i := 0) (TT := T12) (N := 75) MK_X12_hold rfl wi_X12_hold we_X12_hold wm_L_170 hC (cX12_hold (kM_ok hs hv) e12 f2) e12 (Nat.le_of_ble_eq_true rfl) rfl rfl (Nat.le_of_ble_eq_true rfl) rfl dL_1403 (fun _ => ?_)
  refine l_MC hs hz ?_
  exact r_iceq (okC hg hs hv) (tgt := 1457) (by decide) dL_1406 (fun _ => kk) (fun q => absurd rfl q)
set_option maxRecDepth 20000 in
set_option maxHeartbeats 2000000 in
theorem w_restore {z : Zx} {B : Bx} {b L j F : Nat} {xs : Nat → Int32} {Q : State → Prop} {μ ν μ' ν' : Mm} {r : Int32} {σ : Nat} {v : Bool} {C : Nat × Nat} (hg : Og z B code 4 "RopeDanceLaw" (some .boolean) 13 TL) (hX : va_X b L xs (zs z) (zs z).heap) (hb : b < (zs z).heap.size) (hj : j + 6 ≤ L) (hL : L ≤ 3072) (hs : σ < 5) (hv : v = vσ σ ∨ σ = 0) (hC : C.1 ≤ 600000 ∧ C.2 ≤ 7302250) (f1 : fX11_restore F (xs (j + 1)) μ = some (r, μ')) (f2 : fX12_restore F (xs (j + 1)) ν = some (r, ν')) (hz : nz σ μ') (kk : Gq z (kC B σ v ν') 4 Q (C) 1457 μ' (lvL B v b (Int32.ofNat j)) []) : Gq z (kC B σ v ν) 4 Q (C) 1411 μ (lvL B v b (Int32.ofNat j)) [] := by
  have h0 := hg.2.2.2.2.2.2.2.2.2.1
  refine r_aloadn (okC hg hs hv) 2 rfl rfl dL_1411 ?_
  refine l_arg (okC hg hs hv) hX (nFC h0 hb) rfl rfl hj hL 1 (by decide) (y := 1) (by decide) (by decide) dL_1412 dL_1413 dL_1414 dL_1415 dL_1416 ?_
  refine r_callV (okC hg hs hv) (As := [.int (xs (j + 1))]) (rest := []) (st1 := [.int r]) (c := 11) (i := 0) (TT := T11) (N := 12) MK_X11_restore rfl wi_X11_restore we_X11_restore wm_L_171 hC (cX11_restore (kC_ok hs hv) (e11 _ hs) f1) (e11 _ hs) (Nat.le_of_ble_eq_true rfl) rfl rfl (Nat.le_of_ble_eq_true rfl) rfl dL_1417 (fun _ => ?_)
  refine l_CM ?_
  refine r_aloadn (okM hg hs hv) 1 rfl rfl dL_1420 ?_
  refine l_arg (okM hg hs hv) hX (nFM h0 hb) rfl rfl hj hL 1 (by decide) (y := 1) (by decide) (by decide) dL_1421 dL_1422 dL_1423 dL_1424 dL_1425 ?_
  refine r_callV (okM hg hs hv) (As := [.int (xs (j + 1))]) (rest := [.int r]) (st1 := [.int r, .int r]) (c := 12) (i := 0) (TT := T12) (N := 75) MK_X12_restore rfl wi_X12_restore we_X12_restore wm_L_174 hC (cX12_restore (kM_ok hs hv) e12 f2) e12 (Nat.le_of_ble_eq_true rfl) rfl rfl (Nat.le_of_ble_eq_true rfl) rfl dL_1426 (fun _ => ?_)
  refine l_MC hs hz ?_
  exact r_iceq (okC hg hs hv) (tgt := 1457) (by decide) dL_1429 (fun _ => kk) (fun q => absurd rfl q)
set_option maxRecDepth 20000 in
set_option maxHeartbeats 2000000 in
theorem w_count {z : Zx} {B : Bx} {b L j F : Nat} {xs : Nat → Int32} {Q : State → Prop} {μ ν μ' ν' : Mm} {r : Int32} {σ : Nat} {v : Bool} {C : Nat × Nat} (hg : Og z B code 4 "RopeDanceLaw" (some .boolean) 13 TL) (hX : va_X b L xs (zs z) (zs z).heap) (hb : b < (zs z).heap.size) (hj : j + 6 ≤ L) (hL : L ≤ 3072) (hs : σ < 5) (hv : v = vσ σ ∨ σ = 0) (hC : C.1 ≤ 600000 ∧ C.2 ≤ 7302250) (f1 : fX11_count F (xs (j + 1)) μ = some (r, μ')) (f2 : fX12_count F (xs (j + 1)) ν = some (r, ν')) (hz : nz σ μ') (kk : Gq z (kC B σ v ν') 4 Q (C) 1457 μ' (lvL B v b (Int32.ofNat j)) []) : Gq z (kC B σ v ν) 4 Q (C) 1434 μ (lvL B v b (Int32.ofNat j)) [] := by
  have h0 := hg.2.2.2.2.2.2.2.2.2.1
  refine r_aloadn (okC hg hs hv) 2 rfl rfl dL_1434 ?_
  refine l_arg (okC hg hs hv) hX (nFC h0 hb) rfl rfl hj hL 1 (by decide) (y := 1) (by decide) (by decide) dL_1435 dL_1436 dL_1437 dL_1438 dL_1439 ?_
  refine r_callV (okC hg hs hv) (As := [.int (xs (j + 1))]) (rest := []) (st1 := [.int r]) (c := 11) (i := 0) (TT := T11) (N := 12) MK_X11_count rfl wi_X11_count we_X11_count wm_L_175 hC (cX11_count (kC_ok hs hv) (e11 _ hs) f1) (e11 _ hs) (Nat.le_of_ble_eq_true rfl) rfl rfl (Nat.le_of_ble_eq_true rfl) rfl dL_1440 (fun _ => ?_)
  refine l_CM ?_
  refine r_aloadn (okM hg hs hv) 1 rfl rfl dL_1443 ?_
  refine l_arg (okM hg hs hv) hX (nFM h0 hb) rfl rfl hj hL 1 (by decide) (y := 1) (by decide) (by decide) dL_1444 dL_1445 dL_1446 dL_1447 dL_1448 ?_
  refine r_callV (okM hg hs hv) (As := [.int (xs (j + 1))]) (rest := [.int r]) (st1 := [.int r, .int r]) (c := 12) (i := 0) (TT := T12) (N := 75) MK_X12_count rfl wi_X12_count we_X12_count wm_L_178 hC (cX12_count (kM_ok hs hv) e12 f2) e12 (Nat.le_of_ble_eq_true rfl) rfl rfl (Nat.le_of_ble_eq_true rfl) rfl dL_1449 (fun _ => ?_)
  refine l_MC hs hz ?_
  exact r_iceq (okC hg hs hv) (tgt := 1457) (by decide) dL_1452 (fun _ => kk) (fun q => absurd rfl q)
