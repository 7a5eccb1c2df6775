-- the calls 1 to 11 of the law (wip/gen/lawgen.py)
set_option maxRecDepth 20000 in
theorem lw_1 {ρ : mRo} {L i : Nat} {xs : Nat → Int32} {c x : mS} (hρ : ρ 1000 = some (L, xs)) (hr : mRoC ρ) (hi : i + 6 ≤ L) (hL : L ≤ 3072) (hR : Rel c x) (K : ∀ c' x', Rel c' x' → lwG ρ i 1651 [] (hpO c' x')) : lwG ρ i 245 [] (hpO c x) := by
  obtain ⟨r, c', x', e1, e2, hR'⟩ := z_machines hR (xs (i + 1)) (xs (i + 2)) (xs (i + 3))
  refine e_aload_n 1 (k := 1) (pc := 245) (by decide +kernel) rfl rfl ?_
  refine l_arg 1 hρ hi hL (by decide) (pc := 246) (by decide +kernel) ?_
  refine l_arg 2 hρ hi hL (by decide) (pc := 251) (by decide +kernel) ?_
  refine l_arg 3 hρ hi hL (by decide) (pc := 256) (by decide +kernel) ?_
  refine e_callV (as := [.int (xs (i + 1)), .int (xs (i + 2)), .int (xs (i + 3))]) (v := some (.int r)) (s := c) (s' := c') (z := 18) (j := 65) (pc := 261) (view_C x) (by decide +kernel) (Or.inl rfl) rfl rfl rfl rfl (Nat.le_of_ble_eq_true rfl) lc_T rfl rfl (fun Q hQ => tX10_machines (d := 247) (view_C x) e1 hQ) ?_
  refine e_aload_n 2 (k := 2) (pc := 264) (by decide +kernel) rfl rfl ?_
  refine l_arg 1 hρ hi hL (by decide) (pc := 265) (by decide +kernel) ?_
  refine l_arg 2 hρ hi hL (by decide) (pc := 270) (by decide +kernel) ?_
  refine l_arg 3 hρ hi hL (by decide) (pc := 275) (by decide +kernel) ?_
  refine e_callV (as := [.int (xs (i + 1)), .int (xs (i + 2)), .int (xs (i + 3))]) (v := some (.int r)) (s := x) (s' := x') (z := 22) (j := 147) (pc := 280) (view_X c') (by decide +kernel) (Or.inl rfl) rfl rfl rfl rfl (Nat.le_of_ble_eq_true rfl) lx_X rfl rfl (fun Q hQ => tX11_machines (d := 247) (view_X c') e2 hQ) ?_
  exact l_eq (pc := 283) (off := 1368) 1651 (by decide +kernel) (by decide) (K c' x' hR')
set_option maxRecDepth 20000 in
theorem lw_2 {ρ : mRo} {L i : Nat} {xs : Nat → Int32} {c x : mS} (hρ : ρ 1000 = some (L, xs)) (hr : mRoC ρ) (hi : i + 6 ≤ L) (hL : L ≤ 3072) (hR : Rel c x) (K : ∀ c' x', Rel c' x' → lwG ρ i 1651 [] (hpO c' x')) : lwG ρ i 288 [] (hpO c x) := by
  obtain ⟨r, c', x', e1, e2, hR'⟩ := z_writer hR (xs (i + 1))
  refine e_aload_n 1 (k := 1) (pc := 288) (by decide +kernel) rfl rfl ?_
  refine l_arg 1 hρ hi hL (by decide) (pc := 289) (by decide +kernel) ?_
  refine e_callV (as := [.int (xs (i + 1))]) (v := some (.int r)) (s := c) (s' := c') (z := 23) (j := 66) (pc := 294) (view_C x) (by decide +kernel) (Or.inl rfl) rfl rfl rfl rfl (Nat.le_of_ble_eq_true rfl) lc_T rfl rfl (fun Q hQ => tX10_writer (d := 247) (view_C x) e1 hQ) ?_
  refine e_aload_n 2 (k := 2) (pc := 297) (by decide +kernel) rfl rfl ?_
  refine l_arg 1 hρ hi hL (by decide) (pc := 298) (by decide +kernel) ?_
  refine e_callV (as := [.int (xs (i + 1))]) (v := some (.int r)) (s := x) (s' := x') (z := 27) (j := 150) (pc := 303) (view_X c') (by decide +kernel) (Or.inl rfl) rfl rfl rfl rfl (Nat.le_of_ble_eq_true rfl) lx_X rfl rfl (fun Q hQ => tX11_writer (d := 247) (view_X c') e2 hQ) ?_
  exact l_eq (pc := 306) (off := 1345) 1651 (by decide +kernel) (by decide) (K c' x' hR')
set_option maxRecDepth 20000 in
theorem lw_3 {ρ : mRo} {L i : Nat} {xs : Nat → Int32} {c x : mS} (hρ : ρ 1000 = some (L, xs)) (hr : mRoC ρ) (hi : i + 6 ≤ L) (hL : L ≤ 3072) (hR : Rel c x) (K : ∀ c' x', Rel c' x' → lwG ρ i 1651 [] (hpO c' x')) : lwG ρ i 311 [] (hpO c x) := by
  obtain ⟨r, c', x', e1, e2, hR'⟩ := z_mend hR (xs (i + 1)) (xs (i + 2)) (xs (i + 3))
  refine e_aload_n 1 (k := 1) (pc := 311) (by decide +kernel) rfl rfl ?_
  refine l_arg 1 hρ hi hL (by decide) (pc := 312) (by decide +kernel) ?_
  refine l_arg 2 hρ hi hL (by decide) (pc := 317) (by decide +kernel) ?_
  refine l_arg 3 hρ hi hL (by decide) (pc := 322) (by decide +kernel) ?_
  refine e_callV (as := [.int (xs (i + 1)), .int (xs (i + 2)), .int (xs (i + 3))]) (v := some (.int r)) (s := c) (s' := c') (z := 28) (j := 67) (pc := 327) (view_C x) (by decide +kernel) (Or.inl rfl) rfl rfl rfl rfl (Nat.le_of_ble_eq_true rfl) lc_T rfl rfl (fun Q hQ => tX10_mend (d := 247) (view_C x) e1 hQ) ?_
  refine e_aload_n 2 (k := 2) (pc := 330) (by decide +kernel) rfl rfl ?_
  refine l_arg 1 hρ hi hL (by decide) (pc := 331) (by decide +kernel) ?_
  refine l_arg 2 hρ hi hL (by decide) (pc := 336) (by decide +kernel) ?_
  refine l_arg 3 hρ hi hL (by decide) (pc := 341) (by decide +kernel) ?_
  refine e_callV (as := [.int (xs (i + 1)), .int (xs (i + 2)), .int (xs (i + 3))]) (v := some (.int r)) (s := x) (s' := x') (z := 31) (j := 152) (pc := 346) (view_X c') (by decide +kernel) (Or.inl rfl) rfl rfl rfl rfl (Nat.le_of_ble_eq_true rfl) lx_X rfl rfl (fun Q hQ => tX11_mend (d := 246) (view_X c') e2 hQ) ?_
  exact l_eq (pc := 349) (off := 1302) 1651 (by decide +kernel) (by decide) (K c' x' hR')
set_option maxRecDepth 20000 in
theorem lw_4 {ρ : mRo} {L i : Nat} {xs : Nat → Int32} {c x : mS} (hρ : ρ 1000 = some (L, xs)) (hr : mRoC ρ) (hi : i + 6 ≤ L) (hL : L ≤ 3072) (hR : Rel c x) (K : ∀ c' x', Rel c' x' → lwG ρ i 1651 [] (hpO c' x')) : lwG ρ i 354 [] (hpO c x) := by
  obtain ⟨r, e1, e2⟩ := z_of hR (xs (i + 1)) (xs (i + 2))
  refine e_aload_n 1 (k := 1) (pc := 354) (by decide +kernel) rfl rfl ?_
  refine l_arg 1 hρ hi hL (by decide) (pc := 355) (by decide +kernel) ?_
  refine l_arg 2 hρ hi hL (by decide) (pc := 360) (by decide +kernel) ?_
  refine e_callV (as := [.int (xs (i + 1)), .int (xs (i + 2))]) (v := some (.int r)) (s := c) (s' := c) (z := 32) (j := 68) (pc := 365) (view_C x) (by decide +kernel) (Or.inl rfl) rfl rfl rfl rfl (Nat.le_of_ble_eq_true rfl) lc_T rfl rfl (fun Q hQ => tX10_of (d := 247) (view_C x) e1 hQ) ?_
  refine e_aload_n 2 (k := 2) (pc := 368) (by decide +kernel) rfl rfl ?_
  refine l_arg 1 hρ hi hL (by decide) (pc := 369) (by decide +kernel) ?_
  refine l_arg 2 hρ hi hL (by decide) (pc := 374) (by decide +kernel) ?_
  refine e_callV (as := [.int (xs (i + 1)), .int (xs (i + 2))]) (v := some (.int r)) (s := x) (s' := x) (z := 36) (j := 153) (pc := 379) (view_X c) (by decide +kernel) (Or.inl rfl) rfl rfl rfl rfl (Nat.le_of_ble_eq_true rfl) lx_X rfl rfl (fun Q hQ => tX11_of (d := 246) (view_X c) e2 hQ) ?_
  exact l_eq (pc := 382) (off := 1269) 1651 (by decide +kernel) (by decide) (K c x hR)
set_option maxRecDepth 20000 in
theorem lw_5 {ρ : mRo} {L i : Nat} {xs : Nat → Int32} {c x : mS} (hρ : ρ 1000 = some (L, xs)) (hr : mRoC ρ) (hi : i + 6 ≤ L) (hL : L ≤ 3072) (hR : Rel c x) (K : ∀ c' x', Rel c' x' → lwG ρ i 1651 [] (hpO c' x')) : lwG ρ i 387 [] (hpO c x) := by
  obtain ⟨r, c', x', e1, e2, hR'⟩ := z_feed hR (xs (i + 1))
  refine e_aload_n 1 (k := 1) (pc := 387) (by decide +kernel) rfl rfl ?_
  refine l_arg 1 hρ hi hL (by decide) (pc := 388) (by decide +kernel) ?_
  refine e_callV (as := [.int (xs (i + 1))]) (v := some (.int r)) (s := c) (s' := c') (z := 37) (j := 69) (pc := 393) (view_C x) (by decide +kernel) (Or.inl rfl) rfl rfl rfl rfl (Nat.le_of_ble_eq_true rfl) lc_T rfl rfl (fun Q hQ => tX10_feed (d := 248) (view_C x) e1 hQ) ?_
  refine e_aload_n 2 (k := 2) (pc := 396) (by decide +kernel) rfl rfl ?_
  refine l_arg 1 hρ hi hL (by decide) (pc := 397) (by decide +kernel) ?_
  refine e_callV (as := [.int (xs (i + 1))]) (v := some (.int r)) (s := x) (s' := x') (z := 40) (j := 154) (pc := 402) (view_X c') (by decide +kernel) (Or.inl rfl) rfl rfl rfl rfl (Nat.le_of_ble_eq_true rfl) lx_X rfl rfl (fun Q hQ => tX11_feed (d := 248) (view_X c') e2 hQ) ?_
  exact l_eq (pc := 405) (off := 1246) 1651 (by decide +kernel) (by decide) (K c' x' hR')
set_option maxRecDepth 20000 in
theorem lw_6 {ρ : mRo} {L i : Nat} {xs : Nat → Int32} {c x : mS} (hρ : ρ 1000 = some (L, xs)) (hr : mRoC ρ) (hi : i + 6 ≤ L) (hL : L ≤ 3072) (hR : Rel c x) (K : ∀ c' x', Rel c' x' → lwG ρ i 1651 [] (hpO c' x')) : lwG ρ i 410 [] (hpO c x) := by
  obtain ⟨r, c', x', e1, e2, hR'⟩ := z_law hR 
  refine e_aload_n 1 (k := 1) (pc := 410) (by decide +kernel) rfl rfl ?_
  refine e_callV (as := []) (v := some (.int r)) (s := c) (s' := c') (z := 41) (j := 70) (pc := 411) (view_C x) (by decide +kernel) (Or.inl rfl) rfl rfl rfl rfl (Nat.le_of_ble_eq_true rfl) lc_T rfl rfl (fun Q hQ => tX10_law (d := 185) (view_C x) e1 hQ) ?_
  refine e_aload_n 2 (k := 2) (pc := 414) (by decide +kernel) rfl rfl ?_
  refine e_callV (as := []) (v := some (.int r)) (s := x) (s' := x') (z := 44) (j := 166) (pc := 415) (view_X c') (by decide +kernel) (Or.inl rfl) rfl rfl rfl rfl (Nat.le_of_ble_eq_true rfl) lx_X rfl rfl (fun Q hQ => tX11_law (d := 186) (view_X c') e2 hQ) ?_
  exact l_eq (pc := 418) (off := 1233) 1651 (by decide +kernel) (by decide) (K c' x' hR')
set_option maxRecDepth 20000 in
theorem lw_7 {ρ : mRo} {L i : Nat} {xs : Nat → Int32} {c x : mS} (hρ : ρ 1000 = some (L, xs)) (hr : mRoC ρ) (hi : i + 6 ≤ L) (hL : L ≤ 3072) (hR : Rel c x) (K : ∀ c' x', Rel c' x' → lwG ρ i 1651 [] (hpO c' x')) : lwG ρ i 423 [] (hpO c x) := by
  obtain ⟨r, c', x', e1, e2, hR'⟩ := z_shows hR (xs (i + 1)) (xs (i + 2)) (xs (i + 3))
  refine e_aload_n 1 (k := 1) (pc := 423) (by decide +kernel) rfl rfl ?_
  refine l_arg 1 hρ hi hL (by decide) (pc := 424) (by decide +kernel) ?_
  refine l_arg 2 hρ hi hL (by decide) (pc := 429) (by decide +kernel) ?_
  refine l_arg 3 hρ hi hL (by decide) (pc := 434) (by decide +kernel) ?_
  refine e_callV (as := [.int (xs (i + 1)), .int (xs (i + 2)), .int (xs (i + 3))]) (v := some (.int r)) (s := c) (s' := c') (z := 45) (j := 71) (pc := 439) (view_C x) (by decide +kernel) (Or.inl rfl) rfl rfl rfl rfl (Nat.le_of_ble_eq_true rfl) lc_T rfl rfl (fun Q hQ => tX10_shows (d := 244) (view_C x) e1 hQ) ?_
  refine e_aload_n 2 (k := 2) (pc := 442) (by decide +kernel) rfl rfl ?_
  refine l_arg 1 hρ hi hL (by decide) (pc := 443) (by decide +kernel) ?_
  refine l_arg 2 hρ hi hL (by decide) (pc := 448) (by decide +kernel) ?_
  refine l_arg 3 hρ hi hL (by decide) (pc := 453) (by decide +kernel) ?_
  refine e_callV (as := [.int (xs (i + 1)), .int (xs (i + 2)), .int (xs (i + 3))]) (v := some (.int r)) (s := x) (s' := x') (z := 48) (j := 175) (pc := 458) (view_X c') (by decide +kernel) (Or.inl rfl) rfl rfl rfl rfl (Nat.le_of_ble_eq_true rfl) lx_X rfl rfl (fun Q hQ => tX11_shows (d := 184) (view_X c') e2 hQ) ?_
  exact l_eq (pc := 461) (off := 1190) 1651 (by decide +kernel) (by decide) (K c' x' hR')
set_option maxRecDepth 20000 in
theorem lw_8 {ρ : mRo} {L i : Nat} {xs : Nat → Int32} {c x : mS} (hρ : ρ 1000 = some (L, xs)) (hr : mRoC ρ) (hi : i + 6 ≤ L) (hL : L ≤ 3072) (hR : Rel c x) (K : ∀ c' x', Rel c' x' → lwG ρ i 1651 [] (hpO c' x')) : lwG ρ i 466 [] (hpO c x) := by
  obtain ⟨r, c', x', e1, e2, hR'⟩ := z_later hR (xs (i + 1)) (xs (i + 2)) (xs (i + 3)) (xs (i + 4))
  refine e_aload_n 1 (k := 1) (pc := 466) (by decide +kernel) rfl rfl ?_
  refine l_arg 1 hρ hi hL (by decide) (pc := 467) (by decide +kernel) ?_
  refine l_arg 2 hρ hi hL (by decide) (pc := 472) (by decide +kernel) ?_
  refine l_arg 3 hρ hi hL (by decide) (pc := 477) (by decide +kernel) ?_
  refine l_arg 4 hρ hi hL (by decide) (pc := 482) (by decide +kernel) ?_
  refine e_callV (as := [.int (xs (i + 1)), .int (xs (i + 2)), .int (xs (i + 3)), .int (xs (i + 4))]) (v := some (.int r)) (s := c) (s' := c') (z := 49) (j := 72) (pc := 487) (view_C x) (by decide +kernel) (Or.inl rfl) rfl rfl rfl rfl (Nat.le_of_ble_eq_true rfl) lc_T rfl rfl (fun Q hQ => tX10_later (d := 246) (view_C x) e1 hQ) ?_
  refine e_aload_n 2 (k := 2) (pc := 490) (by decide +kernel) rfl rfl ?_
  refine l_arg 1 hρ hi hL (by decide) (pc := 491) (by decide +kernel) ?_
  refine l_arg 2 hρ hi hL (by decide) (pc := 496) (by decide +kernel) ?_
  refine l_arg 3 hρ hi hL (by decide) (pc := 501) (by decide +kernel) ?_
  refine l_arg 4 hρ hi hL (by decide) (pc := 506) (by decide +kernel) ?_
  refine e_callV (as := [.int (xs (i + 1)), .int (xs (i + 2)), .int (xs (i + 3)), .int (xs (i + 4))]) (v := some (.int r)) (s := x) (s' := x') (z := 53) (j := 179) (pc := 511) (view_X c') (by decide +kernel) (Or.inl rfl) rfl rfl rfl rfl (Nat.le_of_ble_eq_true rfl) lx_X rfl rfl (fun Q hQ => tX11_later (d := 245) (view_X c') e2 hQ) ?_
  exact l_eq (pc := 514) (off := 1137) 1651 (by decide +kernel) (by decide) (K c' x' hR')
set_option maxRecDepth 20000 in
theorem lw_9 {ρ : mRo} {L i : Nat} {xs : Nat → Int32} {c x : mS} (hρ : ρ 1000 = some (L, xs)) (hr : mRoC ρ) (hi : i + 6 ≤ L) (hL : L ≤ 3072) (hR : Rel c x) (K : ∀ c' x', Rel c' x' → lwG ρ i 1651 [] (hpO c' x')) : lwG ρ i 519 [] (hpO c x) := by
  obtain ⟨r, c', x', e1, e2, hR'⟩ := z_letter hR (xs (i + 1)) (xs (i + 2))
  refine e_aload_n 1 (k := 1) (pc := 519) (by decide +kernel) rfl rfl ?_
  refine l_arg 1 hρ hi hL (by decide) (pc := 520) (by decide +kernel) ?_
  refine l_arg 2 hρ hi hL (by decide) (pc := 525) (by decide +kernel) ?_
  refine e_callV (as := [.int (xs (i + 1)), .int (xs (i + 2))]) (v := some (.int r)) (s := c) (s' := c') (z := 54) (j := 73) (pc := 530) (view_C x) (by decide +kernel) (Or.inl rfl) rfl rfl rfl rfl (Nat.le_of_ble_eq_true rfl) lc_T rfl rfl (fun Q hQ => tX10_letter (d := 243) (view_C x) e1 hQ) ?_
  refine e_aload_n 2 (k := 2) (pc := 533) (by decide +kernel) rfl rfl ?_
  refine l_arg 1 hρ hi hL (by decide) (pc := 534) (by decide +kernel) ?_
  refine l_arg 2 hρ hi hL (by decide) (pc := 539) (by decide +kernel) ?_
  refine e_callV (as := [.int (xs (i + 1)), .int (xs (i + 2))]) (v := some (.int r)) (s := x) (s' := x') (z := 57) (j := 180) (pc := 544) (view_X c') (by decide +kernel) (Or.inl rfl) rfl rfl rfl rfl (Nat.le_of_ble_eq_true rfl) lx_X rfl rfl (fun Q hQ => tX11_letter (d := 183) (view_X c') e2 hQ) ?_
  exact l_eq (pc := 547) (off := 1104) 1651 (by decide +kernel) (by decide) (K c' x' hR')
set_option maxRecDepth 20000 in
theorem lw_10 {ρ : mRo} {L i : Nat} {xs : Nat → Int32} {c x : mS} (hρ : ρ 1000 = some (L, xs)) (hr : mRoC ρ) (hi : i + 6 ≤ L) (hL : L ≤ 3072) (hR : Rel c x) (K : ∀ c' x', Rel c' x' → lwG ρ i 1651 [] (hpO c' x')) : lwG ρ i 552 [] (hpO c x) := by
  obtain ⟨r, c', x', e1, e2, hR'⟩ := z_still hR (xs (i + 1))
  refine e_aload_n 1 (k := 1) (pc := 552) (by decide +kernel) rfl rfl ?_
  refine l_arg 1 hρ hi hL (by decide) (pc := 553) (by decide +kernel) ?_
  refine e_callV (as := [.int (xs (i + 1))]) (v := some (.int r)) (s := c) (s' := c') (z := 58) (j := 74) (pc := 558) (view_C x) (by decide +kernel) (Or.inl rfl) rfl rfl rfl rfl (Nat.le_of_ble_eq_true rfl) lc_T rfl rfl (fun Q hQ => tX10_still (d := 246) (view_C x) e1 hQ) ?_
  refine e_aload_n 2 (k := 2) (pc := 561) (by decide +kernel) rfl rfl ?_
  refine l_arg 1 hρ hi hL (by decide) (pc := 562) (by decide +kernel) ?_
  refine e_callV (as := [.int (xs (i + 1))]) (v := some (.int r)) (s := x) (s' := x') (z := 61) (j := 181) (pc := 567) (view_X c') (by decide +kernel) (Or.inl rfl) rfl rfl rfl rfl (Nat.le_of_ble_eq_true rfl) lx_X rfl rfl (fun Q hQ => tX11_still (d := 245) (view_X c') e2 hQ) ?_
  exact l_eq (pc := 570) (off := 1081) 1651 (by decide +kernel) (by decide) (K c' x' hR')
set_option maxRecDepth 20000 in
theorem lw_11 {ρ : mRo} {L i : Nat} {xs : Nat → Int32} {c x : mS} (hρ : ρ 1000 = some (L, xs)) (hr : mRoC ρ) (hi : i + 6 ≤ L) (hL : L ≤ 3072) (hR : Rel c x) (K : ∀ c' x', Rel c' x' → lwG ρ i 1651 [] (hpO c' x')) : lwG ρ i 575 [] (hpO c x) := by
  obtain ⟨r, x', e1, e2, hR'⟩ := z_far hR (xs (i + 1))
  refine e_aload_n 1 (k := 1) (pc := 575) (by decide +kernel) rfl rfl ?_
  refine l_arg 1 hρ hi hL (by decide) (pc := 576) (by decide +kernel) ?_
  refine e_callV (as := [.int (xs (i + 1))]) (v := some (.int r)) (s := c) (s' := c) (z := 62) (j := 75) (pc := 581) (view_C x) (by decide +kernel) (Or.inl rfl) rfl rfl rfl rfl (Nat.le_of_ble_eq_true rfl) lc_T rfl rfl (fun Q hQ => tX10_far (d := 247) (view_C x) e1 hQ) ?_
  refine e_aload_n 2 (k := 2) (pc := 584) (by decide +kernel) rfl rfl ?_
  refine l_arg 1 hρ hi hL (by decide) (pc := 585) (by decide +kernel) ?_
  refine e_callV (as := [.int (xs (i + 1))]) (v := some (.int r)) (s := x) (s' := x') (z := 65) (j := 183) (pc := 590) (view_X c) (by decide +kernel) (Or.inl rfl) rfl rfl rfl rfl (Nat.le_of_ble_eq_true rfl) lx_X rfl rfl (fun Q hQ => tX11_far (d := 246) (view_X c) e2 hQ) ?_
  exact l_eq (pc := 593) (off := 1058) 1651 (by decide +kernel) (by decide) (K c x' hR')
