-- the law's loop (wip/gen/lawgen.py)
def lwT : List Nat := [232, 245, 288, 311, 354, 387, 410, 423, 466, 519, 552, 575, 598, 631, 654, 687, 730, 763, 796, 829, 872, 895, 928, 961, 1004, 1017, 1040, 1073, 1116, 1139, 1162, 1185, 1208, 1221, 1234, 1247, 1260, 1283, 1326, 1349, 1382, 1425, 1498, 1532, 1595, 1628]
theorem lwT_ok : ∀ j, j < 46 → (#[199, 212, 255, 278, 321, 354, 377, 390, 433, 486, 519, 542, 565, 598, 621, 654, 697, 730, 763, 796, 839, 862, 895, 928, 971, 984, 1007, 1040, 1083, 1106, 1129, 1152, 1175, 1188, 1201, 1214, 1227, 1250, 1293, 1316, 1349, 1392, 1465, 1499, 1562, 1595] : Array Int)[j]? = some (((lwT.getD j 0 : Nat) : Int) - 33) := by decide +kernel
theorem lw_call {ρ : mRo} {L i : Nat} {xs : Nat → Int32} {c x : mS} (hρ : ρ 1000 = some (L, xs)) (hr : mRoC ρ) (hi : i + 6 ≤ L) (hL : L ≤ 3072) (hR : Rel c x) (K : ∀ c' x', Rel c' x' → lwG ρ i 1651 [] (hpO c' x')) : ∀ j, j < 46 → lwG ρ i (lwT.getD j 0) [] (hpO c x) := by
  intro j hj
  match j, hj with
  | 0, _ => exact lw_0 hρ hr hi hL hR K
  | 1, _ => exact lw_1 hρ hr hi hL hR K
  | 2, _ => exact lw_2 hρ hr hi hL hR K
  | 3, _ => exact lw_3 hρ hr hi hL hR K
  | 4, _ => exact lw_4 hρ hr hi hL hR K
  | 5, _ => exact lw_5 hρ hr hi hL hR K
  | 6, _ => exact lw_6 hρ hr hi hL hR K
  | 7, _ => exact lw_7 hρ hr hi hL hR K
  | 8, _ => exact lw_8 hρ hr hi hL hR K
  | 9, _ => exact lw_9 hρ hr hi hL hR K
  | 10, _ => exact lw_10 hρ hr hi hL hR K
  | 11, _ => exact lw_11 hρ hr hi hL hR K
  | 12, _ => exact lw_12 hρ hr hi hL hR K
  | 13, _ => exact lw_13 hρ hr hi hL hR K
  | 14, _ => exact lw_14 hρ hr hi hL hR K
  | 15, _ => exact lw_15 hρ hr hi hL hR K
  | 16, _ => exact lw_16 hρ hr hi hL hR K
  | 17, _ => exact lw_17 hρ hr hi hL hR K
  | 18, _ => exact lw_18 hρ hr hi hL hR K
  | 19, _ => exact lw_19 hρ hr hi hL hR K
  | 20, _ => exact lw_20 hρ hr hi hL hR K
  | 21, _ => exact lw_21 hρ hr hi hL hR K
  | 22, _ => exact lw_22 hρ hr hi hL hR K
  | 23, _ => exact lw_23 hρ hr hi hL hR K
  | 24, _ => exact lw_24 hρ hr hi hL hR K
  | 25, _ => exact lw_25 hρ hr hi hL hR K
  | 26, _ => exact lw_26 hρ hr hi hL hR K
  | 27, _ => exact lw_27 hρ hr hi hL hR K
  | 28, _ => exact lw_28 hρ hr hi hL hR K
  | 29, _ => exact lw_29 hρ hr hi hL hR K
  | 30, _ => exact lw_30 hρ hr hi hL hR K
  | 31, _ => exact lw_31 hρ hr hi hL hR K
  | 32, _ => exact lw_32 hρ hr hi hL hR K
  | 33, _ => exact lw_33 hρ hr hi hL hR K
  | 34, _ => exact lw_34 hρ hr hi hL hR K
  | 35, _ => exact lw_35 hρ hr hi hL hR K
  | 36, _ => exact lw_36 hρ hr hi hL hR K
  | 37, _ => exact lw_37 hρ hr hi hL hR K
  | 38, _ => exact lw_38 hρ hr hi hL hR K
  | 39, _ => exact lw_39 hρ hr hi hL hR K
  | 40, _ => exact lw_40 hρ hr hi hL hR K
  | 41, _ => exact lw_41 hρ hr hi hL hR K
  | 42, _ => exact lw_42 hρ hr hi hL hR K
  | 43, _ => exact lw_43 hρ hr hi hL hR K
  | 44, _ => exact lw_44 hρ hr hi hL hR K
  | 45, _ => exact lw_45 hρ hr hi hL hR K
  | n + 46, hj => omega
theorem law_go {ρ : mRo} {L : Nat} {xs : Nat → Int32} (hρ : ρ 1000 = some (L, xs)) (hr : mRoC ρ) (hL : L ≤ 3072) : ∀ (m i : Nat) (c x : mS), L - i ≤ m → i ≤ L → Rel c x → lwG ρ i 18 [] (hpO c x) := by
  intro m
  induction m with
  | zero =>
    intro i c x h1 h2 hR
    refine e_iload_n 3 (k := 3) (pc := 18) (by decide +kernel) rfl rfl ?_
    refine e_aload_n 0 (k := 0) (pc := 19) (by decide +kernel) rfl rfl ?_
    refine l_len (pc := 20) hρ (by decide +kernel) ?_
    refine e_bipush (w := nI 6) (z := 6) (pc := 21) (by decide +kernel) (by decide) ?_
    refine e_isub (pc := 23) (by decide +kernel) ?_
    refine e_icmp_gt (off := 1633) (pc := 24) (fa := some true) (fb := none) (res := true) 1657 (by decide +kernel) (by decide) ?_ (fun _ => ?_) (fun z => nomatch z)
    · rw [if_pos]
      rw [Int32.lt_iff_toInt_lt, Int32.toInt_sub, nI_toInt (by omega), nI_toInt (by omega), nI_toInt (by omega), Int.bmod_eq_of_le (by omega) (by omega)]
      omega
    · refine e_iconst (w := 1) (z := 1) (pc := 1657) (by decide +kernel) (by decide) ?_
      exact e_iret (pc := 1658) (by decide +kernel) (Or.inr rfl) rfl
  | succ m ih =>
    intro i c x h1 h2 hR
    refine e_iload_n 3 (k := 3) (pc := 18) (by decide +kernel) rfl rfl ?_
    refine e_aload_n 0 (k := 0) (pc := 19) (by decide +kernel) rfl rfl ?_
    refine l_len (pc := 20) hρ (by decide +kernel) ?_
    refine e_bipush (w := nI 6) (z := 6) (pc := 21) (by decide +kernel) (by decide) ?_
    refine e_isub (pc := 23) (by decide +kernel) ?_
    by_cases hi : i + 6 ≤ L
    · refine e_icmp_gt (off := 1633) (pc := 24) (fa := none) (fb := some true) (res := true) 1657 (by decide +kernel) (by decide) ?_ (fun z => nomatch z) (fun _ => ?_)
      · rw [if_neg]
        rw [Int32.lt_iff_toInt_lt, Int32.toInt_sub, nI_toInt (by omega), nI_toInt (by omega), nI_toInt (by omega), Int.bmod_eq_of_le (by omega) (by omega)]
        omega
      · refine e_aload_n 0 (k := 0) (pc := 27) (by decide +kernel) rfl rfl ?_
        refine e_iload_n 3 (k := 3) (pc := 28) (by decide +kernel) rfl rfl ?_
        refine e_rald (kf := some) (res := xs i) (pc := 29) (by decide +kernel) hρ (by rw [ldR_n (by omega) (by omega)]) (fun v hv => ?_)
        obtain rfl := Option.some.inj hv
        refine e_bipush (w := nI 63) (z := 63) (pc := 30) (by decide +kernel) (by decide) ?_
        refine e_iand (pc := 32) (by decide +kernel) ?_
        have K : ∀ c' x', Rel c' x' → lwG ρ i 1651 [] (hpO c' x') := by
          intro c' x' hR'
          refine e_iinc 3 (z := 6) (w := nI 6) (kf := some) (res := nI (i + 6)) (pc := 1651) (by decide +kernel) (by decide) rfl (by rw [nA]; rfl) (fun y hy => ?_)
          obtain rfl := Option.some.inj hy
          refine e_goto 18 (off := -1636) (pc := 1654) (by decide +kernel) (by decide) ?_
          refine e_pick [1, 2, 3, 0] rfl ?_
          exact ih (i + 6) c' x' (by omega) hi hR'
        have call := lw_call hρ hr hi hL hR K
        have dflt := K c x hR
        generalize xs i &&& nI 63 = v
        by_cases hv : v.toInt < 0 ∨ 45 < v.toInt
        · obtain ⟨n, kk⟩ := dflt
          exact ⟨n + 1, _, _, _, fun _ z => z, (show decode code 33 = .ok (.tableswitch 1618 0 45 #[199, 212, 255, 278, 321, 354, 377, 390, 433, 486, 519, 542, 565, 598, 621, 654, 697, 730, 763, 796, 839, 862, 895, 928, 971, 984, 1007, 1040, 1083, 1106, 1129, 1152, 1175, 1188, 1201, 1214, 1227, 1250, 1293, 1316, 1349, 1392, 1465, 1499, 1562, 1595], 199) by decide +kernel), v, [], rfl, fun _ => ⟨1651, by decide, kk⟩, fun a b => absurd hv (fun z => z.elim a b)⟩
        · have h0 : ¬ v.toInt < 0 := fun z => hv (Or.inl z)
          have h5 : ¬ 45 < v.toInt := fun z => hv (Or.inr z)
          obtain ⟨n, kk⟩ := call (v.toInt - 0).toNat (by omega)
          exact ⟨n + 1, _, _, _, fun _ z => z, (show decode code 33 = .ok (.tableswitch 1618 0 45 #[199, 212, 255, 278, 321, 354, 377, 390, 433, 486, 519, 542, 565, 598, 621, 654, 697, 730, 763, 796, 839, 862, 895, 928, 971, 984, 1007, 1040, 1083, 1106, 1129, 1152, 1175, 1188, 1201, 1214, 1227, 1250, 1293, 1316, 1349, 1392, 1465, 1499, 1562, 1595], 199) by decide +kernel), v, [], rfl, fun z => absurd z hv, fun _ _ => ⟨_, lwT.getD (v.toInt - 0).toNat 0, lwT_ok _ (by omega), by omega, kk⟩⟩
    · refine e_icmp_gt (off := 1633) (pc := 24) (fa := some true) (fb := none) (res := true) 1657 (by decide +kernel) (by decide) ?_ (fun _ => ?_) (fun z => nomatch z)
      · rw [if_pos]
        rw [Int32.lt_iff_toInt_lt, Int32.toInt_sub, nI_toInt (by omega), nI_toInt (by omega), nI_toInt (by omega), Int.bmod_eq_of_le (by omega) (by omega)]
        omega
      · refine e_iconst (w := 1) (z := 1) (pc := 1657) (by decide +kernel) (by decide) ?_
        exact e_iret (pc := 1658) (by decide +kernel) (Or.inr rfl) rfl
