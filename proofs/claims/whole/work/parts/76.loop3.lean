-- the calls 23 to 34 of the law (wip/gen/lawgen.py)
set_option maxRecDepth 20000 in
theorem lw_23 {ρ : mRo} {L i : Nat} {xs : Nat → Int32} {c x : mS} (hρ : ρ 1000 = some (L, xs)) (hr : mRoC ρ) (hi : i + 6 ≤ L) (hL : L ≤ 3072) (hR : Rel c x) (K : ∀ c' x', Rel c' x' → lwG ρ i 1651 [] (hpO c' x')) : lwG ρ i 961 [] (hpO c x) := by
  obtain ⟨r, c', x', e1, e2, hR'⟩ := z_morning hR (xs (i + 1)) (xs (i + 2)) (xs (i + 3))
  refine e_aload_n 1 (k := 1) (pc := 961) (by decide +kernel) rfl rfl ?_
  refine l_arg 1 hρ hi hL (by decide) (pc := 962) (by decide +kernel) ?_
  refine l_arg 2 hρ hi hL (by decide) (pc := 967) (by decide +kernel) ?_
  refine l_arg 3 hρ hi hL (by decide) (pc := 972) (by decide +kernel) ?_
  refine e_callV (as := [.int (xs (i + 1)), .int (xs (i + 2)), .int (xs (i + 3))]) (v := some (.int r)) (s := c) (s' := c') (z := 110) (j := 87) (pc := 977) (view_C x) (by decide +kernel) (Or.inl rfl) rfl rfl rfl rfl (Nat.le_of_ble_eq_true rfl) lc_T rfl rfl (fun Q hQ => tX10_morning (d := 247) (view_C x) e1 hQ) ?_
  refine e_aload_n 2 (k := 2) (pc := 980) (by decide +kernel) rfl rfl ?_
  refine l_arg 1 hρ hi hL (by decide) (pc := 981) (by decide +kernel) ?_
  refine l_arg 2 hρ hi hL (by decide) (pc := 986) (by decide +kernel) ?_
  refine l_arg 3 hρ hi hL (by decide) (pc := 991) (by decide +kernel) ?_
  refine e_callV (as := [.int (xs (i + 1)), .int (xs (i + 2)), .int (xs (i + 3))]) (v := some (.int r)) (s := x) (s' := x') (z := 113) (j := 199) (pc := 996) (view_X c') (by decide +kernel) (Or.inl rfl) rfl rfl rfl rfl (Nat.le_of_ble_eq_true rfl) lx_X rfl rfl (fun Q hQ => tX11_morning (d := 247) (view_X c') e2 hQ) ?_
  exact l_eq (pc := 999) (off := 652) 1651 (by decide +kernel) (by decide) (K c' x' hR')
set_option maxRecDepth 20000 in
theorem lw_24 {ρ : mRo} {L i : Nat} {xs : Nat → Int32} {c x : mS} (hρ : ρ 1000 = some (L, xs)) (hr : mRoC ρ) (hi : i + 6 ≤ L) (hL : L ≤ 3072) (hR : Rel c x) (K : ∀ c' x', Rel c' x' → lwG ρ i 1651 [] (hpO c' x')) : lwG ρ i 1004 [] (hpO c x) := by
  obtain ⟨r, c', x', e1, e2, hR'⟩ := z_alike hR 
  refine e_aload_n 1 (k := 1) (pc := 1004) (by decide +kernel) rfl rfl ?_
  refine e_callV (as := []) (v := some (.int r)) (s := c) (s' := c') (z := 114) (j := 88) (pc := 1005) (view_C x) (by decide +kernel) (Or.inl rfl) rfl rfl rfl rfl (Nat.le_of_ble_eq_true rfl) lc_T rfl rfl (fun Q hQ => tX10_alike (d := 247) (view_C x) e1 hQ) ?_
  refine e_aload_n 2 (k := 2) (pc := 1008) (by decide +kernel) rfl rfl ?_
  refine e_callV (as := []) (v := some (.int r)) (s := x) (s' := x') (z := 117) (j := 200) (pc := 1009) (view_X c') (by decide +kernel) (Or.inl rfl) rfl rfl rfl rfl (Nat.le_of_ble_eq_true rfl) lx_X rfl rfl (fun Q hQ => tX11_alike (d := 247) (view_X c') e2 hQ) ?_
  exact l_eq (pc := 1012) (off := 639) 1651 (by decide +kernel) (by decide) (K c' x' hR')
set_option maxRecDepth 20000 in
theorem lw_25 {ρ : mRo} {L i : Nat} {xs : Nat → Int32} {c x : mS} (hρ : ρ 1000 = some (L, xs)) (hr : mRoC ρ) (hi : i + 6 ≤ L) (hL : L ≤ 3072) (hR : Rel c x) (K : ∀ c' x', Rel c' x' → lwG ρ i 1651 [] (hpO c' x')) : lwG ρ i 1017 [] (hpO c x) := by
  obtain ⟨r, x', e1, e2, hR'⟩ := z_price hR (xs (i + 1))
  refine e_aload_n 1 (k := 1) (pc := 1017) (by decide +kernel) rfl rfl ?_
  refine l_arg 1 hρ hi hL (by decide) (pc := 1018) (by decide +kernel) ?_
  refine e_callV (as := [.int (xs (i + 1))]) (v := some (.int r)) (s := c) (s' := c) (z := 118) (j := 89) (pc := 1023) (view_C x) (by decide +kernel) (Or.inl rfl) rfl rfl rfl rfl (Nat.le_of_ble_eq_true rfl) lc_T rfl rfl (fun Q hQ => tX10_price (d := 245) (view_C x) e1 hQ) ?_
  refine e_aload_n 2 (k := 2) (pc := 1026) (by decide +kernel) rfl rfl ?_
  refine l_arg 1 hρ hi hL (by decide) (pc := 1027) (by decide +kernel) ?_
  refine e_callV (as := [.int (xs (i + 1))]) (v := some (.int r)) (s := x) (s' := x') (z := 121) (j := 202) (pc := 1032) (view_X c) (by decide +kernel) (Or.inl rfl) rfl rfl rfl rfl (Nat.le_of_ble_eq_true rfl) lx_X rfl rfl (fun Q hQ => tX11_price (d := 246) (view_X c) e2 hQ) ?_
  exact l_eq (pc := 1035) (off := 616) 1651 (by decide +kernel) (by decide) (K c x' hR')
set_option maxRecDepth 20000 in
theorem lw_26 {ρ : mRo} {L i : Nat} {xs : Nat → Int32} {c x : mS} (hρ : ρ 1000 = some (L, xs)) (hr : mRoC ρ) (hi : i + 6 ≤ L) (hL : L ≤ 3072) (hR : Rel c x) (K : ∀ c' x', Rel c' x' → lwG ρ i 1651 [] (hpO c' x')) : lwG ρ i 1040 [] (hpO c x) := by
  obtain ⟨r, c', x', e1, e2, hR'⟩ := z_buy hR (xs (i + 1)) (xs (i + 2))
  refine e_aload_n 1 (k := 1) (pc := 1040) (by decide +kernel) rfl rfl ?_
  refine l_arg 1 hρ hi hL (by decide) (pc := 1041) (by decide +kernel) ?_
  refine l_arg 2 hρ hi hL (by decide) (pc := 1046) (by decide +kernel) ?_
  refine e_callV (as := [.int (xs (i + 1)), .int (xs (i + 2))]) (v := some (.int r)) (s := c) (s' := c') (z := 122) (j := 90) (pc := 1051) (view_C x) (by decide +kernel) (Or.inl rfl) rfl rfl rfl rfl (Nat.le_of_ble_eq_true rfl) lc_T rfl rfl (fun Q hQ => tX10_buy (d := 245) (view_C x) e1 hQ) ?_
  refine e_aload_n 2 (k := 2) (pc := 1054) (by decide +kernel) rfl rfl ?_
  refine l_arg 1 hρ hi hL (by decide) (pc := 1055) (by decide +kernel) ?_
  refine l_arg 2 hρ hi hL (by decide) (pc := 1060) (by decide +kernel) ?_
  refine e_callV (as := [.int (xs (i + 1)), .int (xs (i + 2))]) (v := some (.int r)) (s := x) (s' := x') (z := 125) (j := 203) (pc := 1065) (view_X c') (by decide +kernel) (Or.inl rfl) rfl rfl rfl rfl (Nat.le_of_ble_eq_true rfl) lx_X rfl rfl (fun Q hQ => tX11_buy (d := 246) (view_X c') e2 hQ) ?_
  exact l_eq (pc := 1068) (off := 583) 1651 (by decide +kernel) (by decide) (K c' x' hR')
set_option maxRecDepth 20000 in
theorem lw_27 {ρ : mRo} {L i : Nat} {xs : Nat → Int32} {c x : mS} (hρ : ρ 1000 = some (L, xs)) (hr : mRoC ρ) (hi : i + 6 ≤ L) (hL : L ≤ 3072) (hR : Rel c x) (K : ∀ c' x', Rel c' x' → lwG ρ i 1651 [] (hpO c' x')) : lwG ρ i 1073 [] (hpO c x) := by
  obtain ⟨r, c', x', e1, e2, hR'⟩ := z_drawn hR (xs (i + 1)) (xs (i + 2)) (xs (i + 3))
  refine e_aload_n 1 (k := 1) (pc := 1073) (by decide +kernel) rfl rfl ?_
  refine l_arg 1 hρ hi hL (by decide) (pc := 1074) (by decide +kernel) ?_
  refine l_arg 2 hρ hi hL (by decide) (pc := 1079) (by decide +kernel) ?_
  refine l_arg 3 hρ hi hL (by decide) (pc := 1084) (by decide +kernel) ?_
  refine e_callV (as := [.int (xs (i + 1)), .int (xs (i + 2)), .int (xs (i + 3))]) (v := some (.int r)) (s := c) (s' := c') (z := 126) (j := 91) (pc := 1089) (view_C x) (by decide +kernel) (Or.inl rfl) rfl rfl rfl rfl (Nat.le_of_ble_eq_true rfl) lc_T rfl rfl (fun Q hQ => tX10_drawn (d := 246) (view_C x) e1 hQ) ?_
  refine e_aload_n 2 (k := 2) (pc := 1092) (by decide +kernel) rfl rfl ?_
  refine l_arg 1 hρ hi hL (by decide) (pc := 1093) (by decide +kernel) ?_
  refine l_arg 2 hρ hi hL (by decide) (pc := 1098) (by decide +kernel) ?_
  refine l_arg 3 hρ hi hL (by decide) (pc := 1103) (by decide +kernel) ?_
  refine e_callV (as := [.int (xs (i + 1)), .int (xs (i + 2)), .int (xs (i + 3))]) (v := some (.int r)) (s := x) (s' := x') (z := 129) (j := 204) (pc := 1108) (view_X c') (by decide +kernel) (Or.inl rfl) rfl rfl rfl rfl (Nat.le_of_ble_eq_true rfl) lx_X rfl rfl (fun Q hQ => tX11_drawn (d := 247) (view_X c') e2 hQ) ?_
  exact l_eq (pc := 1111) (off := 540) 1651 (by decide +kernel) (by decide) (K c' x' hR')
set_option maxRecDepth 20000 in
theorem lw_28 {ρ : mRo} {L i : Nat} {xs : Nat → Int32} {c x : mS} (hρ : ρ 1000 = some (L, xs)) (hr : mRoC ρ) (hi : i + 6 ≤ L) (hL : L ≤ 3072) (hR : Rel c x) (K : ∀ c' x', Rel c' x' → lwG ρ i 1651 [] (hpO c' x')) : lwG ρ i 1116 [] (hpO c x) := by
  obtain ⟨r, c', x', e1, e2, hR'⟩ := z_types hR (xs (i + 1))
  refine e_aload_n 1 (k := 1) (pc := 1116) (by decide +kernel) rfl rfl ?_
  refine l_arg 1 hρ hi hL (by decide) (pc := 1117) (by decide +kernel) ?_
  refine e_callV (as := [.int (xs (i + 1))]) (v := some (.int r)) (s := c) (s' := c') (z := 130) (j := 92) (pc := 1122) (view_C x) (by decide +kernel) (Or.inl rfl) rfl rfl rfl rfl (Nat.le_of_ble_eq_true rfl) lc_T rfl rfl (fun Q hQ => tX10_types (d := 243) (view_C x) e1 hQ) ?_
  refine e_aload_n 2 (k := 2) (pc := 1125) (by decide +kernel) rfl rfl ?_
  refine l_arg 1 hρ hi hL (by decide) (pc := 1126) (by decide +kernel) ?_
  refine e_callV (as := [.int (xs (i + 1))]) (v := some (.int r)) (s := x) (s' := x') (z := 133) (j := 205) (pc := 1131) (view_X c') (by decide +kernel) (Or.inl rfl) rfl rfl rfl rfl (Nat.le_of_ble_eq_true rfl) lx_X rfl rfl (fun Q hQ => tX11_types (d := 183) (view_X c') e2 hQ) ?_
  exact l_eq (pc := 1134) (off := 517) 1651 (by decide +kernel) (by decide) (K c' x' hR')
set_option maxRecDepth 20000 in
theorem lw_29 {ρ : mRo} {L i : Nat} {xs : Nat → Int32} {c x : mS} (hρ : ρ 1000 = some (L, xs)) (hr : mRoC ρ) (hi : i + 6 ≤ L) (hL : L ≤ 3072) (hR : Rel c x) (K : ∀ c' x', Rel c' x' → lwG ρ i 1651 [] (hpO c' x')) : lwG ρ i 1139 [] (hpO c x) := by
  obtain ⟨r, c', x', e1, e2, hR'⟩ := z_clean hR (xs (i + 1))
  refine e_aload_n 1 (k := 1) (pc := 1139) (by decide +kernel) rfl rfl ?_
  refine l_arg 1 hρ hi hL (by decide) (pc := 1140) (by decide +kernel) ?_
  refine e_callV (as := [.int (xs (i + 1))]) (v := some (.int r)) (s := c) (s' := c') (z := 134) (j := 93) (pc := 1145) (view_C x) (by decide +kernel) (Or.inl rfl) rfl rfl rfl rfl (Nat.le_of_ble_eq_true rfl) lc_T rfl rfl (fun Q hQ => tX10_clean (d := 248) (view_C x) e1 hQ) ?_
  refine e_aload_n 2 (k := 2) (pc := 1148) (by decide +kernel) rfl rfl ?_
  refine l_arg 1 hρ hi hL (by decide) (pc := 1149) (by decide +kernel) ?_
  refine e_callV (as := [.int (xs (i + 1))]) (v := some (.int r)) (s := x) (s' := x') (z := 137) (j := 206) (pc := 1154) (view_X c') (by decide +kernel) (Or.inl rfl) rfl rfl rfl rfl (Nat.le_of_ble_eq_true rfl) lx_X rfl rfl (fun Q hQ => tX11_clean (d := 247) (view_X c') e2 hQ) ?_
  exact l_eq (pc := 1157) (off := 494) 1651 (by decide +kernel) (by decide) (K c' x' hR')
set_option maxRecDepth 20000 in
theorem lw_30 {ρ : mRo} {L i : Nat} {xs : Nat → Int32} {c x : mS} (hρ : ρ 1000 = some (L, xs)) (hr : mRoC ρ) (hi : i + 6 ≤ L) (hL : L ≤ 3072) (hR : Rel c x) (K : ∀ c' x', Rel c' x' → lwG ρ i 1651 [] (hpO c' x')) : lwG ρ i 1162 [] (hpO c x) := by
  obtain ⟨r, c', x', e1, e2, hR'⟩ := z_learn hR (xs (i + 1))
  refine e_aload_n 1 (k := 1) (pc := 1162) (by decide +kernel) rfl rfl ?_
  refine l_arg 1 hρ hi hL (by decide) (pc := 1163) (by decide +kernel) ?_
  refine e_callV (as := [.int (xs (i + 1))]) (v := some (.int r)) (s := c) (s' := c') (z := 138) (j := 94) (pc := 1168) (view_C x) (by decide +kernel) (Or.inl rfl) rfl rfl rfl rfl (Nat.le_of_ble_eq_true rfl) lc_T rfl rfl (fun Q hQ => tX10_learn (d := 247) (view_C x) e1 hQ) ?_
  refine e_aload_n 2 (k := 2) (pc := 1171) (by decide +kernel) rfl rfl ?_
  refine l_arg 1 hρ hi hL (by decide) (pc := 1172) (by decide +kernel) ?_
  refine e_callV (as := [.int (xs (i + 1))]) (v := some (.int r)) (s := x) (s' := x') (z := 141) (j := 207) (pc := 1177) (view_X c') (by decide +kernel) (Or.inl rfl) rfl rfl rfl rfl (Nat.le_of_ble_eq_true rfl) lx_X rfl rfl (fun Q hQ => tX11_learn (d := 246) (view_X c') e2 hQ) ?_
  exact l_eq (pc := 1180) (off := 471) 1651 (by decide +kernel) (by decide) (K c' x' hR')
set_option maxRecDepth 20000 in
theorem lw_31 {ρ : mRo} {L i : Nat} {xs : Nat → Int32} {c x : mS} (hρ : ρ 1000 = some (L, xs)) (hr : mRoC ρ) (hi : i + 6 ≤ L) (hL : L ≤ 3072) (hR : Rel c x) (K : ∀ c' x', Rel c' x' → lwG ρ i 1651 [] (hpO c' x')) : lwG ρ i 1185 [] (hpO c x) := by
  obtain ⟨r, e1, e2⟩ := z_led hR (xs (i + 1))
  refine e_aload_n 1 (k := 1) (pc := 1185) (by decide +kernel) rfl rfl ?_
  refine l_arg 1 hρ hi hL (by decide) (pc := 1186) (by decide +kernel) ?_
  refine e_callV (as := [.int (xs (i + 1))]) (v := some (.int r)) (s := c) (s' := c) (z := 142) (j := 95) (pc := 1191) (view_C x) (by decide +kernel) (Or.inl rfl) rfl rfl rfl rfl (Nat.le_of_ble_eq_true rfl) lc_T rfl rfl (fun Q hQ => tX10_led (d := 249) (view_C x) e1 hQ) ?_
  refine e_aload_n 2 (k := 2) (pc := 1194) (by decide +kernel) rfl rfl ?_
  refine l_arg 1 hρ hi hL (by decide) (pc := 1195) (by decide +kernel) ?_
  refine e_callV (as := [.int (xs (i + 1))]) (v := some (.int r)) (s := x) (s' := x) (z := 145) (j := 208) (pc := 1200) (view_X c) (by decide +kernel) (Or.inl rfl) rfl rfl rfl rfl (Nat.le_of_ble_eq_true rfl) lx_X rfl rfl (fun Q hQ => tX11_led (d := 248) (view_X c) e2 hQ) ?_
  exact l_eq (pc := 1203) (off := 448) 1651 (by decide +kernel) (by decide) (K c x hR)
set_option maxRecDepth 20000 in
theorem lw_32 {ρ : mRo} {L i : Nat} {xs : Nat → Int32} {c x : mS} (hρ : ρ 1000 = some (L, xs)) (hr : mRoC ρ) (hi : i + 6 ≤ L) (hL : L ≤ 3072) (hR : Rel c x) (K : ∀ c' x', Rel c' x' → lwG ρ i 1651 [] (hpO c' x')) : lwG ρ i 1208 [] (hpO c x) := by
  obtain ⟨r, c', x', e1, e2, hR'⟩ := z_image hR 
  refine e_aload_n 1 (k := 1) (pc := 1208) (by decide +kernel) rfl rfl ?_
  refine e_callV (as := []) (v := some (.int r)) (s := c) (s' := c') (z := 146) (j := 96) (pc := 1209) (view_C x) (by decide +kernel) (Or.inl rfl) rfl rfl rfl rfl (Nat.le_of_ble_eq_true rfl) lc_T rfl rfl (fun Q hQ => tX10_image (d := 247) (view_C x) e1 hQ) ?_
  refine e_aload_n 2 (k := 2) (pc := 1212) (by decide +kernel) rfl rfl ?_
  refine e_callV (as := []) (v := some (.int r)) (s := x) (s' := x') (z := 149) (j := 209) (pc := 1213) (view_X c') (by decide +kernel) (Or.inl rfl) rfl rfl rfl rfl (Nat.le_of_ble_eq_true rfl) lx_X rfl rfl (fun Q hQ => tX11_image (d := 249) (view_X c') e2 hQ) ?_
  exact l_eq (pc := 1216) (off := 435) 1651 (by decide +kernel) (by decide) (K c' x' hR')
set_option maxRecDepth 20000 in
theorem lw_33 {ρ : mRo} {L i : Nat} {xs : Nat → Int32} {c x : mS} (hρ : ρ 1000 = some (L, xs)) (hr : mRoC ρ) (hi : i + 6 ≤ L) (hL : L ≤ 3072) (hR : Rel c x) (K : ∀ c' x', Rel c' x' → lwG ρ i 1651 [] (hpO c' x')) : lwG ρ i 1221 [] (hpO c x) := by
  obtain ⟨r, c', x', e1, e2, hR'⟩ := z_back hR 
  refine e_aload_n 1 (k := 1) (pc := 1221) (by decide +kernel) rfl rfl ?_
  refine e_callV (as := []) (v := some (.int r)) (s := c) (s' := c') (z := 150) (j := 97) (pc := 1222) (view_C x) (by decide +kernel) (Or.inl rfl) rfl rfl rfl rfl (Nat.le_of_ble_eq_true rfl) lc_T rfl rfl (fun Q hQ => tX10_back (d := 248) (view_C x) e1 hQ) ?_
  refine e_aload_n 2 (k := 2) (pc := 1225) (by decide +kernel) rfl rfl ?_
  refine e_callV (as := []) (v := some (.int r)) (s := x) (s' := x') (z := 153) (j := 210) (pc := 1226) (view_X c') (by decide +kernel) (Or.inl rfl) rfl rfl rfl rfl (Nat.le_of_ble_eq_true rfl) lx_X rfl rfl (fun Q hQ => tX11_back (d := 249) (view_X c') e2 hQ) ?_
  exact l_eq (pc := 1229) (off := 422) 1651 (by decide +kernel) (by decide) (K c' x' hR')
set_option maxRecDepth 20000 in
theorem lw_34 {ρ : mRo} {L i : Nat} {xs : Nat → Int32} {c x : mS} (hρ : ρ 1000 = some (L, xs)) (hr : mRoC ρ) (hi : i + 6 ≤ L) (hL : L ≤ 3072) (hR : Rel c x) (K : ∀ c' x', Rel c' x' → lwG ρ i 1651 [] (hpO c' x')) : lwG ρ i 1234 [] (hpO c x) := by
  obtain ⟨r, c', x', e1, e2, hR'⟩ := z_undo hR 
  refine e_aload_n 1 (k := 1) (pc := 1234) (by decide +kernel) rfl rfl ?_
  refine e_callV (as := []) (v := some (.int r)) (s := c) (s' := c') (z := 154) (j := 98) (pc := 1235) (view_C x) (by decide +kernel) (Or.inl rfl) rfl rfl rfl rfl (Nat.le_of_ble_eq_true rfl) lc_T rfl rfl (fun Q hQ => tX10_undo (d := 248) (view_C x) e1 hQ) ?_
  refine e_aload_n 2 (k := 2) (pc := 1238) (by decide +kernel) rfl rfl ?_
  refine e_callV (as := []) (v := some (.int r)) (s := x) (s' := x') (z := 157) (j := 140) (pc := 1239) (view_X c') (by decide +kernel) (Or.inl rfl) rfl rfl rfl rfl (Nat.le_of_ble_eq_true rfl) lx_X rfl rfl (fun Q hQ => tX11_undo (d := 249) (view_X c') e2 hQ) ?_
  exact l_eq (pc := 1242) (off := 409) 1651 (by decide +kernel) (by decide) (K c' x' hR')
