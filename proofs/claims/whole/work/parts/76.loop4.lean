-- the calls 35 to 45 of the law (wip/gen/lawgen.py)
set_option maxRecDepth 20000 in
theorem lw_35 {ρ : mRo} {L i : Nat} {xs : Nat → Int32} {c x : mS} (hρ : ρ 1000 = some (L, xs)) (hr : mRoC ρ) (hi : i + 6 ≤ L) (hL : L ≤ 3072) (hR : Rel c x) (K : ∀ c' x', Rel c' x' → lwG ρ i 1651 [] (hpO c' x')) : lwG ρ i 1247 [] (hpO c x) := by
  obtain ⟨r, c', x', e1, e2, hR'⟩ := z_redo hR 
  refine e_aload_n 1 (k := 1) (pc := 1247) (by decide +kernel) rfl rfl ?_
  refine e_callV (as := []) (v := some (.int r)) (s := c) (s' := c') (z := 158) (j := 99) (pc := 1248) (view_C x) (by decide +kernel) (Or.inl rfl) rfl rfl rfl rfl (Nat.le_of_ble_eq_true rfl) lc_T rfl rfl (fun Q hQ => tX10_redo (d := 248) (view_C x) e1 hQ) ?_
  refine e_aload_n 2 (k := 2) (pc := 1251) (by decide +kernel) rfl rfl ?_
  refine e_callV (as := []) (v := some (.int r)) (s := x) (s' := x') (z := 161) (j := 141) (pc := 1252) (view_X c') (by decide +kernel) (Or.inl rfl) rfl rfl rfl rfl (Nat.le_of_ble_eq_true rfl) lx_X rfl rfl (fun Q hQ => tX11_redo (d := 249) (view_X c') e2 hQ) ?_
  exact l_eq (pc := 1255) (off := 396) 1651 (by decide +kernel) (by decide) (K c' x' hR')
set_option maxRecDepth 20000 in
theorem lw_36 {ρ : mRo} {L i : Nat} {xs : Nat → Int32} {c x : mS} (hρ : ρ 1000 = some (L, xs)) (hr : mRoC ρ) (hi : i + 6 ≤ L) (hL : L ≤ 3072) (hR : Rel c x) (K : ∀ c' x', Rel c' x' → lwG ρ i 1651 [] (hpO c' x')) : lwG ρ i 1260 [] (hpO c x) := by
  obtain ⟨r, c', x', e1, e2, hR'⟩ := z_body hR (xs (i + 1))
  refine e_aload_n 1 (k := 1) (pc := 1260) (by decide +kernel) rfl rfl ?_
  refine l_arg 1 hρ hi hL (by decide) (pc := 1261) (by decide +kernel) ?_
  refine e_callV (as := [.int (xs (i + 1))]) (v := some (.int r)) (s := c) (s' := c') (z := 162) (j := 100) (pc := 1266) (view_C x) (by decide +kernel) (Or.inl rfl) rfl rfl rfl rfl (Nat.le_of_ble_eq_true rfl) lc_T rfl rfl (fun Q hQ => tX10_body (d := 248) (view_C x) e1 hQ) ?_
  refine e_aload_n 2 (k := 2) (pc := 1269) (by decide +kernel) rfl rfl ?_
  refine l_arg 1 hρ hi hL (by decide) (pc := 1270) (by decide +kernel) ?_
  refine e_callV (as := [.int (xs (i + 1))]) (v := some (.int r)) (s := x) (s' := x') (z := 165) (j := 213) (pc := 1275) (view_X c') (by decide +kernel) (Or.inl rfl) rfl rfl rfl rfl (Nat.le_of_ble_eq_true rfl) lx_X rfl rfl (fun Q hQ => tX11_body (d := 248) (view_X c') e2 hQ) ?_
  exact l_eq (pc := 1278) (off := 373) 1651 (by decide +kernel) (by decide) (K c' x' hR')
set_option maxRecDepth 20000 in
theorem lw_37 {ρ : mRo} {L i : Nat} {xs : Nat → Int32} {c x : mS} (hρ : ρ 1000 = some (L, xs)) (hr : mRoC ρ) (hi : i + 6 ≤ L) (hL : L ≤ 3072) (hR : Rel c x) (K : ∀ c' x', Rel c' x' → lwG ρ i 1651 [] (hpO c' x')) : lwG ρ i 1283 [] (hpO c x) := by
  obtain ⟨r, c', x', e1, e2, hR'⟩ := z_act hR (xs (i + 1)) (xs (i + 2)) (xs (i + 3))
  refine e_aload_n 1 (k := 1) (pc := 1283) (by decide +kernel) rfl rfl ?_
  refine l_arg 1 hρ hi hL (by decide) (pc := 1284) (by decide +kernel) ?_
  refine l_arg 2 hρ hi hL (by decide) (pc := 1289) (by decide +kernel) ?_
  refine l_arg 3 hρ hi hL (by decide) (pc := 1294) (by decide +kernel) ?_
  refine e_callV (as := [.int (xs (i + 1)), .int (xs (i + 2)), .int (xs (i + 3))]) (v := some (.int r)) (s := c) (s' := c') (z := 166) (j := 101) (pc := 1299) (view_C x) (by decide +kernel) (Or.inl rfl) rfl rfl rfl rfl (Nat.le_of_ble_eq_true rfl) lc_T rfl rfl (fun Q hQ => tX10_act (d := 188) (view_C x) hr e1 hQ) ?_
  refine e_aload_n 2 (k := 2) (pc := 1302) (by decide +kernel) rfl rfl ?_
  refine l_arg 1 hρ hi hL (by decide) (pc := 1303) (by decide +kernel) ?_
  refine l_arg 2 hρ hi hL (by decide) (pc := 1308) (by decide +kernel) ?_
  refine l_arg 3 hρ hi hL (by decide) (pc := 1313) (by decide +kernel) ?_
  refine e_callV (as := [.int (xs (i + 1)), .int (xs (i + 2)), .int (xs (i + 3))]) (v := some (.int r)) (s := x) (s' := x') (z := 169) (j := 220) (pc := 1318) (view_X c') (by decide +kernel) (Or.inl rfl) rfl rfl rfl rfl (Nat.le_of_ble_eq_true rfl) lx_X rfl rfl (fun Q hQ => tX11_act (d := 8) (view_X c') e2 hQ) ?_
  exact l_eq (pc := 1321) (off := 330) 1651 (by decide +kernel) (by decide) (K c' x' hR')
set_option maxRecDepth 20000 in
theorem lw_38 {ρ : mRo} {L i : Nat} {xs : Nat → Int32} {c x : mS} (hρ : ρ 1000 = some (L, xs)) (hr : mRoC ρ) (hi : i + 6 ≤ L) (hL : L ≤ 3072) (hR : Rel c x) (K : ∀ c' x', Rel c' x' → lwG ρ i 1651 [] (hpO c' x')) : lwG ρ i 1326 [] (hpO c x) := by
  obtain ⟨r, e1, e2⟩ := z_trace hR (xs (i + 1))
  refine e_aload_n 1 (k := 1) (pc := 1326) (by decide +kernel) rfl rfl ?_
  refine l_arg 1 hρ hi hL (by decide) (pc := 1327) (by decide +kernel) ?_
  refine e_callV (as := [.int (xs (i + 1))]) (v := some (.int r)) (s := c) (s' := c) (z := 170) (j := 102) (pc := 1332) (view_C x) (by decide +kernel) (Or.inl rfl) rfl rfl rfl rfl (Nat.le_of_ble_eq_true rfl) lc_T rfl rfl (fun Q hQ => tX10_trace (d := 249) (view_C x) e1 hQ) ?_
  refine e_aload_n 2 (k := 2) (pc := 1335) (by decide +kernel) rfl rfl ?_
  refine l_arg 1 hρ hi hL (by decide) (pc := 1336) (by decide +kernel) ?_
  refine e_callV (as := [.int (xs (i + 1))]) (v := some (.int r)) (s := x) (s' := x) (z := 173) (j := 221) (pc := 1341) (view_X c) (by decide +kernel) (Or.inl rfl) rfl rfl rfl rfl (Nat.le_of_ble_eq_true rfl) lx_X rfl rfl (fun Q hQ => tX11_trace (d := 249) (view_X c) e2 hQ) ?_
  exact l_eq (pc := 1344) (off := 307) 1651 (by decide +kernel) (by decide) (K c x hR)
set_option maxRecDepth 20000 in
theorem lw_39 {ρ : mRo} {L i : Nat} {xs : Nat → Int32} {c x : mS} (hρ : ρ 1000 = some (L, xs)) (hr : mRoC ρ) (hi : i + 6 ≤ L) (hL : L ≤ 3072) (hR : Rel c x) (K : ∀ c' x', Rel c' x' → lwG ρ i 1651 [] (hpO c' x')) : lwG ρ i 1349 [] (hpO c x) := by
  obtain ⟨r, c', x', e1, e2, hR'⟩ := z_keep hR (xs (i + 1)) (xs (i + 2))
  refine e_aload_n 1 (k := 1) (pc := 1349) (by decide +kernel) rfl rfl ?_
  refine l_arg 1 hρ hi hL (by decide) (pc := 1350) (by decide +kernel) ?_
  refine l_arg 2 hρ hi hL (by decide) (pc := 1355) (by decide +kernel) ?_
  refine e_callV (as := [.int (xs (i + 1)), .int (xs (i + 2))]) (v := some (.int r)) (s := c) (s' := c') (z := 174) (j := 103) (pc := 1360) (view_C x) (by decide +kernel) (Or.inl rfl) rfl rfl rfl rfl (Nat.le_of_ble_eq_true rfl) lc_T rfl rfl (fun Q hQ => tX10_keep (d := 248) (view_C x) e1 hQ) ?_
  refine e_aload_n 2 (k := 2) (pc := 1363) (by decide +kernel) rfl rfl ?_
  refine l_arg 1 hρ hi hL (by decide) (pc := 1364) (by decide +kernel) ?_
  refine l_arg 2 hρ hi hL (by decide) (pc := 1369) (by decide +kernel) ?_
  refine e_callV (as := [.int (xs (i + 1)), .int (xs (i + 2))]) (v := some (.int r)) (s := x) (s' := x') (z := 177) (j := 223) (pc := 1374) (view_X c') (by decide +kernel) (Or.inl rfl) rfl rfl rfl rfl (Nat.le_of_ble_eq_true rfl) lx_X rfl rfl (fun Q hQ => tX11_keep (d := 247) (view_X c') e2 hQ) ?_
  exact l_eq (pc := 1377) (off := 274) 1651 (by decide +kernel) (by decide) (K c' x' hR')
set_option maxRecDepth 20000 in
theorem lw_40 {ρ : mRo} {L i : Nat} {xs : Nat → Int32} {c x : mS} (hρ : ρ 1000 = some (L, xs)) (hr : mRoC ρ) (hi : i + 6 ≤ L) (hL : L ≤ 3072) (hR : Rel c x) (K : ∀ c' x', Rel c' x' → lwG ρ i 1651 [] (hpO c' x')) : lwG ρ i 1382 [] (hpO c x) := by
  obtain ⟨r, c', x', e1, e2, hR'⟩ := z_row hR (xs (i + 1)) (xs (i + 2)) (xs (i + 3))
  refine e_aload_n 1 (k := 1) (pc := 1382) (by decide +kernel) rfl rfl ?_
  refine l_arg 1 hρ hi hL (by decide) (pc := 1383) (by decide +kernel) ?_
  refine l_arg 2 hρ hi hL (by decide) (pc := 1388) (by decide +kernel) ?_
  refine l_arg 3 hρ hi hL (by decide) (pc := 1393) (by decide +kernel) ?_
  refine e_callV (as := [.int (xs (i + 1)), .int (xs (i + 2)), .int (xs (i + 3))]) (v := some (.int r)) (s := c) (s' := c') (z := 178) (j := 104) (pc := 1398) (view_C x) (by decide +kernel) (Or.inl rfl) rfl rfl rfl rfl (Nat.le_of_ble_eq_true rfl) lc_T rfl rfl (fun Q hQ => tX10_row (d := 247) (view_C x) e1 hQ) ?_
  refine e_aload_n 2 (k := 2) (pc := 1401) (by decide +kernel) rfl rfl ?_
  refine l_arg 1 hρ hi hL (by decide) (pc := 1402) (by decide +kernel) ?_
  refine l_arg 2 hρ hi hL (by decide) (pc := 1407) (by decide +kernel) ?_
  refine l_arg 3 hρ hi hL (by decide) (pc := 1412) (by decide +kernel) ?_
  refine e_callV (as := [.int (xs (i + 1)), .int (xs (i + 2)), .int (xs (i + 3))]) (v := some (.int r)) (s := x) (s' := x') (z := 181) (j := 224) (pc := 1417) (view_X c') (by decide +kernel) (Or.inl rfl) rfl rfl rfl rfl (Nat.le_of_ble_eq_true rfl) lx_X rfl rfl (fun Q hQ => tX11_row (d := 247) (view_X c') e2 hQ) ?_
  exact l_eq (pc := 1420) (off := 231) 1651 (by decide +kernel) (by decide) (K c' x' hR')
set_option maxRecDepth 20000 in
theorem lw_41 {ρ : mRo} {L i : Nat} {xs : Nat → Int32} {c x : mS} (hρ : ρ 1000 = some (L, xs)) (hr : mRoC ρ) (hi : i + 6 ≤ L) (hL : L ≤ 3072) (hR : Rel c x) (K : ∀ c' x', Rel c' x' → lwG ρ i 1651 [] (hpO c' x')) : lwG ρ i 1425 [] (hpO c x) := by
  obtain ⟨r, c', x', e1, e2, hR'⟩ := z_put hR (xs (i + 1)) (xs (i + 2)) (((((xs (i + 3)).toInt64) <<< ((nI 32).toInt64 &&& 63)) ||| (((xs (i + 4)).toInt64) &&& (4294967295 : Int64))))
  refine e_aload_n 1 (k := 1) (pc := 1425) (by decide +kernel) rfl rfl ?_
  refine l_arg 1 hρ hi hL (by decide) (pc := 1426) (by decide +kernel) ?_
  refine l_arg 2 hρ hi hL (by decide) (pc := 1431) (by decide +kernel) ?_
  refine l_arg 3 hρ hi hL (by decide) (pc := 1436) (by decide +kernel) ?_
  refine e_i2l (pc := 1441) (by decide +kernel) ?_
  refine e_bipush (w := nI 32) (pc := 1442) (z := 32) (by decide +kernel) (by decide) ?_
  refine e_lshl (pc := 1444) (by decide +kernel) ?_
  refine l_arg 4 hρ hi hL (by decide) (pc := 1445) (by decide +kernel) ?_
  refine e_i2l (pc := 1450) (by decide +kernel) ?_
  refine e_ldc2_w (w := 4294967295) (z := 182) (pc := 1451) (by decide +kernel) rfl ?_
  refine e_land (pc := 1454) (by decide +kernel) ?_
  refine e_lor (pc := 1455) (by decide +kernel) ?_
  refine e_callV (as := [.int (xs (i + 1)), .int (xs (i + 2)), .long (((((xs (i + 3)).toInt64) <<< ((nI 32).toInt64 &&& 63)) ||| (((xs (i + 4)).toInt64) &&& (4294967295 : Int64))))]) (v := some (.int r)) (s := c) (s' := c') (z := 184) (j := 105) (pc := 1456) (view_C x) (by decide +kernel) (Or.inl rfl) rfl rfl rfl rfl (Nat.le_of_ble_eq_true rfl) lc_T rfl rfl (fun Q hQ => tX10_put (d := 247) (view_C x) e1 hQ) ?_
  refine e_aload_n 2 (k := 2) (pc := 1459) (by decide +kernel) rfl rfl ?_
  refine l_arg 1 hρ hi hL (by decide) (pc := 1460) (by decide +kernel) ?_
  refine l_arg 2 hρ hi hL (by decide) (pc := 1465) (by decide +kernel) ?_
  refine l_arg 3 hρ hi hL (by decide) (pc := 1470) (by decide +kernel) ?_
  refine e_i2l (pc := 1475) (by decide +kernel) ?_
  refine e_bipush (w := nI 32) (pc := 1476) (z := 32) (by decide +kernel) (by decide) ?_
  refine e_lshl (pc := 1478) (by decide +kernel) ?_
  refine l_arg 4 hρ hi hL (by decide) (pc := 1479) (by decide +kernel) ?_
  refine e_i2l (pc := 1484) (by decide +kernel) ?_
  refine e_ldc2_w (w := 4294967295) (z := 182) (pc := 1485) (by decide +kernel) rfl ?_
  refine e_land (pc := 1488) (by decide +kernel) ?_
  refine e_lor (pc := 1489) (by decide +kernel) ?_
  refine e_callV (as := [.int (xs (i + 1)), .int (xs (i + 2)), .long (((((xs (i + 3)).toInt64) <<< ((nI 32).toInt64 &&& 63)) ||| (((xs (i + 4)).toInt64) &&& (4294967295 : Int64))))]) (v := some (.int r)) (s := x) (s' := x') (z := 188) (j := 227) (pc := 1490) (view_X c') (by decide +kernel) (Or.inl rfl) rfl rfl rfl rfl (Nat.le_of_ble_eq_true rfl) lx_X rfl rfl (fun Q hQ => tX11_put (d := 246) (view_X c') e2 hQ) ?_
  exact l_eq (pc := 1493) (off := 158) 1651 (by decide +kernel) (by decide) (K c' x' hR')
set_option maxRecDepth 20000 in
theorem lw_42 {ρ : mRo} {L i : Nat} {xs : Nat → Int32} {c x : mS} (hρ : ρ 1000 = some (L, xs)) (hr : mRoC ρ) (hi : i + 6 ≤ L) (hL : L ≤ 3072) (hR : Rel c x) (K : ∀ c' x', Rel c' x' → lwG ρ i 1651 [] (hpO c' x')) : lwG ρ i 1498 [] (hpO c x) := by
  obtain ⟨r, e1, e2⟩ := z_element hR (xs (i + 1)) (xs (i + 2))
  refine e_aload_n 1 (k := 1) (pc := 1498) (by decide +kernel) rfl rfl ?_
  refine l_arg 1 hρ hi hL (by decide) (pc := 1499) (by decide +kernel) ?_
  refine l_arg 2 hρ hi hL (by decide) (pc := 1504) (by decide +kernel) ?_
  refine e_callV (as := [.int (xs (i + 1)), .int (xs (i + 2))]) (v := some (.long r)) (s := c) (s' := c) (z := 189) (j := 106) (pc := 1509) (view_C x) (by decide +kernel) (Or.inl rfl) rfl rfl rfl rfl (Nat.le_of_ble_eq_true rfl) lc_T rfl rfl (fun Q hQ => tX10_element (d := 247) (view_C x) e1 hQ) ?_
  refine e_aload_n 2 (k := 2) (pc := 1512) (by decide +kernel) rfl rfl ?_
  refine l_arg 1 hρ hi hL (by decide) (pc := 1513) (by decide +kernel) ?_
  refine l_arg 2 hρ hi hL (by decide) (pc := 1518) (by decide +kernel) ?_
  refine e_callV (as := [.int (xs (i + 1)), .int (xs (i + 2))]) (v := some (.long r)) (s := x) (s' := x) (z := 193) (j := 228) (pc := 1523) (view_X c) (by decide +kernel) (Or.inl rfl) rfl rfl rfl rfl (Nat.le_of_ble_eq_true rfl) lx_X rfl rfl (fun Q hQ => tX11_element (d := 246) (view_X c) e2 hQ) ?_
  refine e_lcmp (pc := 1526) (by decide +kernel) ?_
  exact l_if0 (pc := 1527) (off := 124) 1651 (lcmp_self r) (by decide +kernel) (by decide) (K c x hR)
set_option maxRecDepth 20000 in
theorem lw_43 {ρ : mRo} {L i : Nat} {xs : Nat → Int32} {c x : mS} (hρ : ρ 1000 = some (L, xs)) (hr : mRoC ρ) (hi : i + 6 ≤ L) (hL : L ≤ 3072) (hR : Rel c x) (K : ∀ c' x', Rel c' x' → lwG ρ i 1651 [] (hpO c' x')) : lwG ρ i 1532 [] (hpO c x) := by
  obtain ⟨r, c', x', e1, e2, hR'⟩ := z_shift hR (xs (i + 1)) (xs (i + 2)) (xs (i + 3)) (xs (i + 4)) (xs (i + 5))
  refine e_aload_n 1 (k := 1) (pc := 1532) (by decide +kernel) rfl rfl ?_
  refine l_arg 1 hρ hi hL (by decide) (pc := 1533) (by decide +kernel) ?_
  refine l_arg 2 hρ hi hL (by decide) (pc := 1538) (by decide +kernel) ?_
  refine l_arg 3 hρ hi hL (by decide) (pc := 1543) (by decide +kernel) ?_
  refine l_arg 4 hρ hi hL (by decide) (pc := 1548) (by decide +kernel) ?_
  refine l_arg 5 hρ hi hL (by decide) (pc := 1553) (by decide +kernel) ?_
  refine e_callV (as := [.int (xs (i + 1)), .int (xs (i + 2)), .int (xs (i + 3)), .int (xs (i + 4)), .int (xs (i + 5))]) (v := some (.int r)) (s := c) (s' := c') (z := 194) (j := 107) (pc := 1558) (view_C x) (by decide +kernel) (Or.inl rfl) rfl rfl rfl rfl (Nat.le_of_ble_eq_true rfl) lc_T rfl rfl (fun Q hQ => tX10_shift (d := 248) (view_C x) e1 hQ) ?_
  refine e_aload_n 2 (k := 2) (pc := 1561) (by decide +kernel) rfl rfl ?_
  refine l_arg 1 hρ hi hL (by decide) (pc := 1562) (by decide +kernel) ?_
  refine l_arg 2 hρ hi hL (by decide) (pc := 1567) (by decide +kernel) ?_
  refine l_arg 3 hρ hi hL (by decide) (pc := 1572) (by decide +kernel) ?_
  refine l_arg 4 hρ hi hL (by decide) (pc := 1577) (by decide +kernel) ?_
  refine l_arg 5 hρ hi hL (by decide) (pc := 1582) (by decide +kernel) ?_
  refine e_callV (as := [.int (xs (i + 1)), .int (xs (i + 2)), .int (xs (i + 3)), .int (xs (i + 4)), .int (xs (i + 5))]) (v := some (.int r)) (s := x) (s' := x') (z := 198) (j := 229) (pc := 1587) (view_X c') (by decide +kernel) (Or.inl rfl) rfl rfl rfl rfl (Nat.le_of_ble_eq_true rfl) lx_X rfl rfl (fun Q hQ => tX11_shift (d := 247) (view_X c') e2 hQ) ?_
  exact l_eq (pc := 1590) (off := 61) 1651 (by decide +kernel) (by decide) (K c' x' hR')
set_option maxRecDepth 20000 in
theorem lw_44 {ρ : mRo} {L i : Nat} {xs : Nat → Int32} {c x : mS} (hρ : ρ 1000 = some (L, xs)) (hr : mRoC ρ) (hi : i + 6 ≤ L) (hL : L ≤ 3072) (hR : Rel c x) (K : ∀ c' x', Rel c' x' → lwG ρ i 1651 [] (hpO c' x')) : lwG ρ i 1595 [] (hpO c x) := by
  obtain ⟨r, e1, e2⟩ := z_taken hR (xs (i + 1)) (xs (i + 2))
  refine e_aload_n 1 (k := 1) (pc := 1595) (by decide +kernel) rfl rfl ?_
  refine l_arg 1 hρ hi hL (by decide) (pc := 1596) (by decide +kernel) ?_
  refine l_arg 2 hρ hi hL (by decide) (pc := 1601) (by decide +kernel) ?_
  refine e_callV (as := [.int (xs (i + 1)), .int (xs (i + 2))]) (v := some (.int r)) (s := c) (s' := c) (z := 199) (j := 108) (pc := 1606) (view_C x) (by decide +kernel) (Or.inl rfl) rfl rfl rfl rfl (Nat.le_of_ble_eq_true rfl) lc_T rfl rfl (fun Q hQ => tX10_taken (d := 248) (view_C x) hr e1 hQ) ?_
  refine e_aload_n 2 (k := 2) (pc := 1609) (by decide +kernel) rfl rfl ?_
  refine l_arg 1 hρ hi hL (by decide) (pc := 1610) (by decide +kernel) ?_
  refine l_arg 2 hρ hi hL (by decide) (pc := 1615) (by decide +kernel) ?_
  refine e_callV (as := [.int (xs (i + 1)), .int (xs (i + 2))]) (v := some (.int r)) (s := x) (s' := x) (z := 202) (j := 230) (pc := 1620) (view_X c) (by decide +kernel) (Or.inl rfl) rfl rfl rfl rfl (Nat.le_of_ble_eq_true rfl) lx_X rfl rfl (fun Q hQ => tX11_taken (d := 247) (view_X c) e2 hQ) ?_
  exact l_eq (pc := 1623) (off := 28) 1651 (by decide +kernel) (by decide) (K c x hR)
set_option maxRecDepth 20000 in
theorem lw_45 {ρ : mRo} {L i : Nat} {xs : Nat → Int32} {c x : mS} (hρ : ρ 1000 = some (L, xs)) (hr : mRoC ρ) (hi : i + 6 ≤ L) (hL : L ≤ 3072) (hR : Rel c x) (K : ∀ c' x', Rel c' x' → lwG ρ i 1651 [] (hpO c' x')) : lwG ρ i 1628 [] (hpO c x) := by
  obtain ⟨r, e1, e2⟩ := z_count hR (xs (i + 1))
  refine e_aload_n 1 (k := 1) (pc := 1628) (by decide +kernel) rfl rfl ?_
  refine l_arg 1 hρ hi hL (by decide) (pc := 1629) (by decide +kernel) ?_
  refine e_callV (as := [.int (xs (i + 1))]) (v := some (.int r)) (s := c) (s' := c) (z := 203) (j := 109) (pc := 1634) (view_C x) (by decide +kernel) (Or.inl rfl) rfl rfl rfl rfl (Nat.le_of_ble_eq_true rfl) lc_T rfl rfl (fun Q hQ => tX10_count (d := 249) (view_C x) e1 hQ) ?_
  refine e_aload_n 2 (k := 2) (pc := 1637) (by decide +kernel) rfl rfl ?_
  refine l_arg 1 hρ hi hL (by decide) (pc := 1638) (by decide +kernel) ?_
  refine e_callV (as := [.int (xs (i + 1))]) (v := some (.int r)) (s := x) (s' := x) (z := 206) (j := 231) (pc := 1643) (view_X c) (by decide +kernel) (Or.inl rfl) rfl rfl rfl rfl (Nat.le_of_ble_eq_true rfl) lx_X rfl rfl (fun Q hQ => tX11_count (d := 249) (view_X c) e2 hQ) ?_
  exact l_eq (pc := 1646) (off := 5) 1651 (by decide +kernel) (by decide) (K c x hR)
