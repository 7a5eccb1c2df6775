-- the calls 12 to 22 of the law (wip/gen/lawgen.py)
set_option maxRecDepth 20000 in
theorem lw_12 {ρ : mRo} {L i : Nat} {xs : Nat → Int32} {c x : mS} (hρ : ρ 1000 = some (L, xs)) (hr : mRoC ρ) (hi : i + 6 ≤ L) (hL : L ≤ 3072) (hR : Rel c x) (K : ∀ c' x', Rel c' x' → lwG ρ i 1651 [] (hpO c' x')) : lwG ρ i 598 [] (hpO c x) := by
  obtain ⟨r, x', e1, e2, hR'⟩ := z_nearest hR (xs (i + 1)) (xs (i + 2))
  refine e_aload_n 1 (k := 1) (pc := 598) (by decide +kernel) rfl rfl ?_
  refine l_arg 1 hρ hi hL (by decide) (pc := 599) (by decide +kernel) ?_
  refine l_arg 2 hρ hi hL (by decide) (pc := 604) (by decide +kernel) ?_
  refine e_callV (as := [.int (xs (i + 1)), .int (xs (i + 2))]) (v := some (.int r)) (s := c) (s' := c) (z := 66) (j := 76) (pc := 609) (view_C x) (by decide +kernel) (Or.inl rfl) rfl rfl rfl rfl (Nat.le_of_ble_eq_true rfl) lc_T rfl rfl (fun Q hQ => tX10_nearest (d := 246) (view_C x) e1 hQ) ?_
  refine e_aload_n 2 (k := 2) (pc := 612) (by decide +kernel) rfl rfl ?_
  refine l_arg 1 hρ hi hL (by decide) (pc := 613) (by decide +kernel) ?_
  refine l_arg 2 hρ hi hL (by decide) (pc := 618) (by decide +kernel) ?_
  refine e_callV (as := [.int (xs (i + 1)), .int (xs (i + 2))]) (v := some (.int r)) (s := x) (s' := x') (z := 69) (j := 184) (pc := 623) (view_X c) (by decide +kernel) (Or.inl rfl) rfl rfl rfl rfl (Nat.le_of_ble_eq_true rfl) lx_X rfl rfl (fun Q hQ => tX11_nearest (d := 247) (view_X c) e2 hQ) ?_
  exact l_eq (pc := 626) (off := 1025) 1651 (by decide +kernel) (by decide) (K c x' hR')
set_option maxRecDepth 20000 in
theorem lw_13 {ρ : mRo} {L i : Nat} {xs : Nat → Int32} {c x : mS} (hρ : ρ 1000 = some (L, xs)) (hr : mRoC ρ) (hi : i + 6 ≤ L) (hL : L ≤ 3072) (hR : Rel c x) (K : ∀ c' x', Rel c' x' → lwG ρ i 1651 [] (hpO c' x')) : lwG ρ i 631 [] (hpO c x) := by
  obtain ⟨r, c', x', e1, e2, hR'⟩ := z_given hR (xs (i + 1))
  refine e_aload_n 1 (k := 1) (pc := 631) (by decide +kernel) rfl rfl ?_
  refine l_arg 1 hρ hi hL (by decide) (pc := 632) (by decide +kernel) ?_
  refine e_callV (as := [.int (xs (i + 1))]) (v := some (.int r)) (s := c) (s' := c') (z := 70) (j := 77) (pc := 637) (view_C x) (by decide +kernel) (Or.inl rfl) rfl rfl rfl rfl (Nat.le_of_ble_eq_true rfl) lc_T rfl rfl (fun Q hQ => tX10_given (d := 245) (view_C x) e1 hQ) ?_
  refine e_aload_n 2 (k := 2) (pc := 640) (by decide +kernel) rfl rfl ?_
  refine l_arg 1 hρ hi hL (by decide) (pc := 641) (by decide +kernel) ?_
  refine e_callV (as := [.int (xs (i + 1))]) (v := some (.int r)) (s := x) (s' := x') (z := 73) (j := 185) (pc := 646) (view_X c') (by decide +kernel) (Or.inl rfl) rfl rfl rfl rfl (Nat.le_of_ble_eq_true rfl) lx_X rfl rfl (fun Q hQ => tX11_given (d := 247) (view_X c') e2 hQ) ?_
  exact l_eq (pc := 649) (off := 1002) 1651 (by decide +kernel) (by decide) (K c' x' hR')
set_option maxRecDepth 20000 in
theorem lw_14 {ρ : mRo} {L i : Nat} {xs : Nat → Int32} {c x : mS} (hρ : ρ 1000 = some (L, xs)) (hr : mRoC ρ) (hi : i + 6 ≤ L) (hL : L ≤ 3072) (hR : Rel c x) (K : ∀ c' x', Rel c' x' → lwG ρ i 1651 [] (hpO c' x')) : lwG ρ i 654 [] (hpO c x) := by
  obtain ⟨r, e1, e2⟩ := z_teach hR (xs (i + 1)) (xs (i + 2))
  refine e_aload_n 1 (k := 1) (pc := 654) (by decide +kernel) rfl rfl ?_
  refine l_arg 1 hρ hi hL (by decide) (pc := 655) (by decide +kernel) ?_
  refine l_arg 2 hρ hi hL (by decide) (pc := 660) (by decide +kernel) ?_
  refine e_callV (as := [.int (xs (i + 1)), .int (xs (i + 2))]) (v := some (.int r)) (s := c) (s' := c) (z := 74) (j := 78) (pc := 665) (view_C x) (by decide +kernel) (Or.inl rfl) rfl rfl rfl rfl (Nat.le_of_ble_eq_true rfl) lc_T rfl rfl (fun Q hQ => tX10_teach (d := 247) (view_C x) e1 hQ) ?_
  refine e_aload_n 2 (k := 2) (pc := 668) (by decide +kernel) rfl rfl ?_
  refine l_arg 1 hρ hi hL (by decide) (pc := 669) (by decide +kernel) ?_
  refine l_arg 2 hρ hi hL (by decide) (pc := 674) (by decide +kernel) ?_
  refine e_callV (as := [.int (xs (i + 1)), .int (xs (i + 2))]) (v := some (.int r)) (s := x) (s' := x) (z := 77) (j := 186) (pc := 679) (view_X c) (by decide +kernel) (Or.inl rfl) rfl rfl rfl rfl (Nat.le_of_ble_eq_true rfl) lx_X rfl rfl (fun Q hQ => tX11_teach (d := 246) (view_X c) e2 hQ) ?_
  exact l_eq (pc := 682) (off := 969) 1651 (by decide +kernel) (by decide) (K c x hR)
set_option maxRecDepth 20000 in
theorem lw_15 {ρ : mRo} {L i : Nat} {xs : Nat → Int32} {c x : mS} (hρ : ρ 1000 = some (L, xs)) (hr : mRoC ρ) (hi : i + 6 ≤ L) (hL : L ≤ 3072) (hR : Rel c x) (K : ∀ c' x', Rel c' x' → lwG ρ i 1651 [] (hpO c' x')) : lwG ρ i 687 [] (hpO c x) := by
  obtain ⟨r, c', x', e1, e2, hR'⟩ := z_bring hR (xs (i + 1)) (xs (i + 2)) (xs (i + 3))
  refine e_aload_n 1 (k := 1) (pc := 687) (by decide +kernel) rfl rfl ?_
  refine l_arg 1 hρ hi hL (by decide) (pc := 688) (by decide +kernel) ?_
  refine l_arg 2 hρ hi hL (by decide) (pc := 693) (by decide +kernel) ?_
  refine l_arg 3 hρ hi hL (by decide) (pc := 698) (by decide +kernel) ?_
  refine e_callV (as := [.int (xs (i + 1)), .int (xs (i + 2)), .int (xs (i + 3))]) (v := some (.int r)) (s := c) (s' := c') (z := 78) (j := 79) (pc := 703) (view_C x) (by decide +kernel) (Or.inl rfl) rfl rfl rfl rfl (Nat.le_of_ble_eq_true rfl) lc_T rfl rfl (fun Q hQ => tX10_bring (d := 246) (view_C x) e1 hQ) ?_
  refine e_aload_n 2 (k := 2) (pc := 706) (by decide +kernel) rfl rfl ?_
  refine l_arg 1 hρ hi hL (by decide) (pc := 707) (by decide +kernel) ?_
  refine l_arg 2 hρ hi hL (by decide) (pc := 712) (by decide +kernel) ?_
  refine l_arg 3 hρ hi hL (by decide) (pc := 717) (by decide +kernel) ?_
  refine e_callV (as := [.int (xs (i + 1)), .int (xs (i + 2)), .int (xs (i + 3))]) (v := some (.int r)) (s := x) (s' := x') (z := 81) (j := 188) (pc := 722) (view_X c') (by decide +kernel) (Or.inl rfl) rfl rfl rfl rfl (Nat.le_of_ble_eq_true rfl) lx_X rfl rfl (fun Q hQ => tX11_bring (d := 247) (view_X c') e2 hQ) ?_
  exact l_eq (pc := 725) (off := 926) 1651 (by decide +kernel) (by decide) (K c' x' hR')
set_option maxRecDepth 20000 in
theorem lw_16 {ρ : mRo} {L i : Nat} {xs : Nat → Int32} {c x : mS} (hρ : ρ 1000 = some (L, xs)) (hr : mRoC ρ) (hi : i + 6 ≤ L) (hL : L ≤ 3072) (hR : Rel c x) (K : ∀ c' x', Rel c' x' → lwG ρ i 1651 [] (hpO c' x')) : lwG ρ i 730 [] (hpO c x) := by
  obtain ⟨r, c', x', e1, e2, hR'⟩ := z_whose hR (xs (i + 1)) (xs (i + 2))
  refine e_aload_n 1 (k := 1) (pc := 730) (by decide +kernel) rfl rfl ?_
  refine l_arg 1 hρ hi hL (by decide) (pc := 731) (by decide +kernel) ?_
  refine l_arg 2 hρ hi hL (by decide) (pc := 736) (by decide +kernel) ?_
  refine e_callV (as := [.int (xs (i + 1)), .int (xs (i + 2))]) (v := some (.int r)) (s := c) (s' := c') (z := 82) (j := 80) (pc := 741) (view_C x) (by decide +kernel) (Or.inl rfl) rfl rfl rfl rfl (Nat.le_of_ble_eq_true rfl) lc_T rfl rfl (fun Q hQ => tX10_whose (d := 242) (view_C x) e1 hQ) ?_
  refine e_aload_n 2 (k := 2) (pc := 744) (by decide +kernel) rfl rfl ?_
  refine l_arg 1 hρ hi hL (by decide) (pc := 745) (by decide +kernel) ?_
  refine l_arg 2 hρ hi hL (by decide) (pc := 750) (by decide +kernel) ?_
  refine e_callV (as := [.int (xs (i + 1)), .int (xs (i + 2))]) (v := some (.int r)) (s := x) (s' := x') (z := 85) (j := 190) (pc := 755) (view_X c') (by decide +kernel) (Or.inl rfl) rfl rfl rfl rfl (Nat.le_of_ble_eq_true rfl) lx_X rfl rfl (fun Q hQ => tX11_whose (d := 183) (view_X c') e2 hQ) ?_
  exact l_eq (pc := 758) (off := 893) 1651 (by decide +kernel) (by decide) (K c' x' hR')
set_option maxRecDepth 20000 in
theorem lw_17 {ρ : mRo} {L i : Nat} {xs : Nat → Int32} {c x : mS} (hρ : ρ 1000 = some (L, xs)) (hr : mRoC ρ) (hi : i + 6 ≤ L) (hL : L ≤ 3072) (hR : Rel c x) (K : ∀ c' x', Rel c' x' → lwG ρ i 1651 [] (hpO c' x')) : lwG ρ i 763 [] (hpO c x) := by
  obtain ⟨r, c', x', e1, e2, hR'⟩ := z_where hR (xs (i + 1)) (xs (i + 2))
  refine e_aload_n 1 (k := 1) (pc := 763) (by decide +kernel) rfl rfl ?_
  refine l_arg 1 hρ hi hL (by decide) (pc := 764) (by decide +kernel) ?_
  refine l_arg 2 hρ hi hL (by decide) (pc := 769) (by decide +kernel) ?_
  refine e_callV (as := [.int (xs (i + 1)), .int (xs (i + 2))]) (v := some (.int r)) (s := c) (s' := c') (z := 86) (j := 81) (pc := 774) (view_C x) (by decide +kernel) (Or.inl rfl) rfl rfl rfl rfl (Nat.le_of_ble_eq_true rfl) lc_T rfl rfl (fun Q hQ => tX10_where (d := 243) (view_C x) e1 hQ) ?_
  refine e_aload_n 2 (k := 2) (pc := 777) (by decide +kernel) rfl rfl ?_
  refine l_arg 1 hρ hi hL (by decide) (pc := 778) (by decide +kernel) ?_
  refine l_arg 2 hρ hi hL (by decide) (pc := 783) (by decide +kernel) ?_
  refine e_callV (as := [.int (xs (i + 1)), .int (xs (i + 2))]) (v := some (.int r)) (s := x) (s' := x') (z := 89) (j := 191) (pc := 788) (view_X c') (by decide +kernel) (Or.inl rfl) rfl rfl rfl rfl (Nat.le_of_ble_eq_true rfl) lx_X rfl rfl (fun Q hQ => tX11_where (d := 183) (view_X c') e2 hQ) ?_
  exact l_eq (pc := 791) (off := 860) 1651 (by decide +kernel) (by decide) (K c' x' hR')
set_option maxRecDepth 20000 in
theorem lw_18 {ρ : mRo} {L i : Nat} {xs : Nat → Int32} {c x : mS} (hρ : ρ 1000 = some (L, xs)) (hr : mRoC ρ) (hi : i + 6 ≤ L) (hL : L ≤ 3072) (hR : Rel c x) (K : ∀ c' x', Rel c' x' → lwG ρ i 1651 [] (hpO c' x')) : lwG ρ i 796 [] (hpO c x) := by
  obtain ⟨r, c', x', e1, e2, hR'⟩ := z_pairs hR (xs (i + 1)) (xs (i + 2))
  refine e_aload_n 1 (k := 1) (pc := 796) (by decide +kernel) rfl rfl ?_
  refine l_arg 1 hρ hi hL (by decide) (pc := 797) (by decide +kernel) ?_
  refine l_arg 2 hρ hi hL (by decide) (pc := 802) (by decide +kernel) ?_
  refine e_callV (as := [.int (xs (i + 1)), .int (xs (i + 2))]) (v := some (.int r)) (s := c) (s' := c') (z := 90) (j := 82) (pc := 807) (view_C x) (by decide +kernel) (Or.inl rfl) rfl rfl rfl rfl (Nat.le_of_ble_eq_true rfl) lc_T rfl rfl (fun Q hQ => tX10_pairs (d := 242) (view_C x) e1 hQ) ?_
  refine e_aload_n 2 (k := 2) (pc := 810) (by decide +kernel) rfl rfl ?_
  refine l_arg 1 hρ hi hL (by decide) (pc := 811) (by decide +kernel) ?_
  refine l_arg 2 hρ hi hL (by decide) (pc := 816) (by decide +kernel) ?_
  refine e_callV (as := [.int (xs (i + 1)), .int (xs (i + 2))]) (v := some (.int r)) (s := x) (s' := x') (z := 93) (j := 192) (pc := 821) (view_X c') (by decide +kernel) (Or.inl rfl) rfl rfl rfl rfl (Nat.le_of_ble_eq_true rfl) lx_X rfl rfl (fun Q hQ => tX11_pairs (d := 183) (view_X c') e2 hQ) ?_
  exact l_eq (pc := 824) (off := 827) 1651 (by decide +kernel) (by decide) (K c' x' hR')
set_option maxRecDepth 20000 in
theorem lw_19 {ρ : mRo} {L i : Nat} {xs : Nat → Int32} {c x : mS} (hρ : ρ 1000 = some (L, xs)) (hr : mRoC ρ) (hi : i + 6 ≤ L) (hL : L ≤ 3072) (hR : Rel c x) (K : ∀ c' x', Rel c' x' → lwG ρ i 1651 [] (hpO c' x')) : lwG ρ i 829 [] (hpO c x) := by
  obtain ⟨r, c', x', e1, e2, hR'⟩ := z_between hR (xs (i + 1)) (xs (i + 2)) (xs (i + 3))
  refine e_aload_n 1 (k := 1) (pc := 829) (by decide +kernel) rfl rfl ?_
  refine l_arg 1 hρ hi hL (by decide) (pc := 830) (by decide +kernel) ?_
  refine l_arg 2 hρ hi hL (by decide) (pc := 835) (by decide +kernel) ?_
  refine l_arg 3 hρ hi hL (by decide) (pc := 840) (by decide +kernel) ?_
  refine e_callV (as := [.int (xs (i + 1)), .int (xs (i + 2)), .int (xs (i + 3))]) (v := some (.int r)) (s := c) (s' := c') (z := 94) (j := 83) (pc := 845) (view_C x) (by decide +kernel) (Or.inl rfl) rfl rfl rfl rfl (Nat.le_of_ble_eq_true rfl) lc_T rfl rfl (fun Q hQ => tX10_between (d := 243) (view_C x) e1 hQ) ?_
  refine e_aload_n 2 (k := 2) (pc := 848) (by decide +kernel) rfl rfl ?_
  refine l_arg 1 hρ hi hL (by decide) (pc := 849) (by decide +kernel) ?_
  refine l_arg 2 hρ hi hL (by decide) (pc := 854) (by decide +kernel) ?_
  refine l_arg 3 hρ hi hL (by decide) (pc := 859) (by decide +kernel) ?_
  refine e_callV (as := [.int (xs (i + 1)), .int (xs (i + 2)), .int (xs (i + 3))]) (v := some (.int r)) (s := x) (s' := x') (z := 97) (j := 193) (pc := 864) (view_X c') (by decide +kernel) (Or.inl rfl) rfl rfl rfl rfl (Nat.le_of_ble_eq_true rfl) lx_X rfl rfl (fun Q hQ => tX11_between (d := 183) (view_X c') e2 hQ) ?_
  exact l_eq (pc := 867) (off := 784) 1651 (by decide +kernel) (by decide) (K c' x' hR')
set_option maxRecDepth 20000 in
theorem lw_20 {ρ : mRo} {L i : Nat} {xs : Nat → Int32} {c x : mS} (hρ : ρ 1000 = some (L, xs)) (hr : mRoC ρ) (hi : i + 6 ≤ L) (hL : L ≤ 3072) (hR : Rel c x) (K : ∀ c' x', Rel c' x' → lwG ρ i 1651 [] (hpO c' x')) : lwG ρ i 872 [] (hpO c x) := by
  obtain ⟨r, c', x', e1, e2, hR'⟩ := z_judge hR (xs (i + 1))
  refine e_aload_n 1 (k := 1) (pc := 872) (by decide +kernel) rfl rfl ?_
  refine l_arg 1 hρ hi hL (by decide) (pc := 873) (by decide +kernel) ?_
  refine e_callV (as := [.int (xs (i + 1))]) (v := some (.int r)) (s := c) (s' := c') (z := 98) (j := 84) (pc := 878) (view_C x) (by decide +kernel) (Or.inl rfl) rfl rfl rfl rfl (Nat.le_of_ble_eq_true rfl) lc_T rfl rfl (fun Q hQ => tX10_judge (d := 242) (view_C x) e1 hQ) ?_
  refine e_aload_n 2 (k := 2) (pc := 881) (by decide +kernel) rfl rfl ?_
  refine l_arg 1 hρ hi hL (by decide) (pc := 882) (by decide +kernel) ?_
  refine e_callV (as := [.int (xs (i + 1))]) (v := some (.int r)) (s := x) (s' := x') (z := 101) (j := 195) (pc := 887) (view_X c') (by decide +kernel) (Or.inl rfl) rfl rfl rfl rfl (Nat.le_of_ble_eq_true rfl) lx_X rfl rfl (fun Q hQ => tX11_judge (d := 182) (view_X c') e2 hQ) ?_
  exact l_eq (pc := 890) (off := 761) 1651 (by decide +kernel) (by decide) (K c' x' hR')
set_option maxRecDepth 20000 in
theorem lw_21 {ρ : mRo} {L i : Nat} {xs : Nat → Int32} {c x : mS} (hρ : ρ 1000 = some (L, xs)) (hr : mRoC ρ) (hi : i + 6 ≤ L) (hL : L ≤ 3072) (hR : Rel c x) (K : ∀ c' x', Rel c' x' → lwG ρ i 1651 [] (hpO c' x')) : lwG ρ i 895 [] (hpO c x) := by
  obtain ⟨r, c', x', e1, e2, hR'⟩ := z_falseOne hR (xs (i + 1)) (xs (i + 2))
  refine e_aload_n 1 (k := 1) (pc := 895) (by decide +kernel) rfl rfl ?_
  refine l_arg 1 hρ hi hL (by decide) (pc := 896) (by decide +kernel) ?_
  refine l_arg 2 hρ hi hL (by decide) (pc := 901) (by decide +kernel) ?_
  refine e_callV (as := [.int (xs (i + 1)), .int (xs (i + 2))]) (v := some (.int r)) (s := c) (s' := c') (z := 102) (j := 85) (pc := 906) (view_C x) (by decide +kernel) (Or.inl rfl) rfl rfl rfl rfl (Nat.le_of_ble_eq_true rfl) lc_T rfl rfl (fun Q hQ => tX10_falseOne (d := 242) (view_C x) e1 hQ) ?_
  refine e_aload_n 2 (k := 2) (pc := 909) (by decide +kernel) rfl rfl ?_
  refine l_arg 1 hρ hi hL (by decide) (pc := 910) (by decide +kernel) ?_
  refine l_arg 2 hρ hi hL (by decide) (pc := 915) (by decide +kernel) ?_
  refine e_callV (as := [.int (xs (i + 1)), .int (xs (i + 2))]) (v := some (.int r)) (s := x) (s' := x') (z := 105) (j := 196) (pc := 920) (view_X c') (by decide +kernel) (Or.inl rfl) rfl rfl rfl rfl (Nat.le_of_ble_eq_true rfl) lx_X rfl rfl (fun Q hQ => tX11_falseOne (d := 182) (view_X c') e2 hQ) ?_
  exact l_eq (pc := 923) (off := 728) 1651 (by decide +kernel) (by decide) (K c' x' hR')
set_option maxRecDepth 20000 in
theorem lw_22 {ρ : mRo} {L i : Nat} {xs : Nat → Int32} {c x : mS} (hρ : ρ 1000 = some (L, xs)) (hr : mRoC ρ) (hi : i + 6 ≤ L) (hL : L ≤ 3072) (hR : Rel c x) (K : ∀ c' x', Rel c' x' → lwG ρ i 1651 [] (hpO c' x')) : lwG ρ i 928 [] (hpO c x) := by
  obtain ⟨r, c', x', e1, e2, hR'⟩ := z_ribbons hR (xs (i + 1)) (xs (i + 2))
  refine e_aload_n 1 (k := 1) (pc := 928) (by decide +kernel) rfl rfl ?_
  refine l_arg 1 hρ hi hL (by decide) (pc := 929) (by decide +kernel) ?_
  refine l_arg 2 hρ hi hL (by decide) (pc := 934) (by decide +kernel) ?_
  refine e_callV (as := [.int (xs (i + 1)), .int (xs (i + 2))]) (v := some (.int r)) (s := c) (s' := c') (z := 106) (j := 86) (pc := 939) (view_C x) (by decide +kernel) (Or.inl rfl) rfl rfl rfl rfl (Nat.le_of_ble_eq_true rfl) lc_T rfl rfl (fun Q hQ => tX10_ribbons (d := 242) (view_C x) e1 hQ) ?_
  refine e_aload_n 2 (k := 2) (pc := 942) (by decide +kernel) rfl rfl ?_
  refine l_arg 1 hρ hi hL (by decide) (pc := 943) (by decide +kernel) ?_
  refine l_arg 2 hρ hi hL (by decide) (pc := 948) (by decide +kernel) ?_
  refine e_callV (as := [.int (xs (i + 1)), .int (xs (i + 2))]) (v := some (.int r)) (s := x) (s' := x') (z := 109) (j := 197) (pc := 953) (view_X c') (by decide +kernel) (Or.inl rfl) rfl rfl rfl rfl (Nat.le_of_ble_eq_true rfl) lx_X rfl rfl (fun Q hQ => tX11_ribbons (d := 182) (view_X c') e2 hQ) ?_
  exact l_eq (pc := 956) (off := 695) 1651 (by decide +kernel) (by decide) (K c' x' hR')
