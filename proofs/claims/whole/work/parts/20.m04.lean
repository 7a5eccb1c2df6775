-- bytecode to functions, by program (wip/gen/decomp.py)
theorem dX10_fillGivenRest_0 : decode cX10_fillGivenRest 0 = .ok (.iconst 1, 1) := by decide +kernel
theorem dX10_fillGivenRest_1 : decode cX10_fillGivenRest 1 = .ok (.aload_n 0, 1) := by decide +kernel
theorem dX10_fillGivenRest_2 : decode cX10_fillGivenRest 2 = .ok (.getfield 10, 3) := by decide +kernel
theorem dX10_fillGivenRest_5 : decode cX10_fillGivenRest 5 = .ok (.getfield 216, 3) := by decide +kernel
theorem dX10_fillGivenRest_8 : decode cX10_fillGivenRest 8 = .ok (.ishl, 1) := by decide +kernel
theorem dX10_fillGivenRest_9 : decode cX10_fillGivenRest 9 = .ok (.iconst 1, 1) := by decide +kernel
theorem dX10_fillGivenRest_10 : decode cX10_fillGivenRest 10 = .ok (.isub, 1) := by decide +kernel
theorem dX10_fillGivenRest_11 : decode cX10_fillGivenRest 11 = .ok (.istore_n 1, 1) := by decide +kernel
theorem dX10_fillGivenRest_12 : decode cX10_fillGivenRest 12 = .ok (.iload_n 1, 1) := by decide +kernel
theorem dX10_fillGivenRest_13 : decode cX10_fillGivenRest 13 = .ok (.ifCond .lt 66, 3) := by decide +kernel
theorem dX10_fillGivenRest_16 : decode cX10_fillGivenRest 16 = .ok (.iload_n 1, 1) := by decide +kernel
theorem dX10_fillGivenRest_17 : decode cX10_fillGivenRest 17 = .ok (.invokestatic 246, 3) := by decide +kernel
theorem dX10_fillGivenRest_20 : decode cX10_fillGivenRest 20 = .ok (.istore_n 2, 1) := by decide +kernel
theorem dX10_fillGivenRest_21 : decode cX10_fillGivenRest 21 = .ok (.aload_n 0, 1) := by decide +kernel
theorem dX10_fillGivenRest_22 : decode cX10_fillGivenRest 22 = .ok (.getfield 74, 3) := by decide +kernel
theorem dX10_fillGivenRest_25 : decode cX10_fillGivenRest 25 = .ok (.iload_n 1, 1) := by decide +kernel
theorem dX10_fillGivenRest_26 : decode cX10_fillGivenRest 26 = .ok (.iconst 0, 1) := by decide +kernel
theorem dX10_fillGivenRest_27 : decode cX10_fillGivenRest 27 = .ok (.iastore, 1) := by decide +kernel
theorem dX10_fillGivenRest_28 : decode cX10_fillGivenRest 28 = .ok (.iload_n 2, 1) := by decide +kernel
theorem dX10_fillGivenRest_29 : decode cX10_fillGivenRest 29 = .ok (.aload_n 0, 1) := by decide +kernel
theorem dX10_fillGivenRest_30 : decode cX10_fillGivenRest 30 = .ok (.getfield 22, 3) := by decide +kernel
theorem dX10_fillGivenRest_33 : decode cX10_fillGivenRest 33 = .ok (.getfield 215, 3) := by decide +kernel
theorem dX10_fillGivenRest_36 : decode cX10_fillGivenRest 36 = .ok (.if_icmp .ge 37, 3) := by decide +kernel
theorem dX10_fillGivenRest_39 : decode cX10_fillGivenRest 39 = .ok (.aload_n 0, 1) := by decide +kernel
theorem dX10_fillGivenRest_40 : decode cX10_fillGivenRest 40 = .ok (.iload_n 2, 1) := by decide +kernel
theorem dX10_fillGivenRest_41 : decode cX10_fillGivenRest 41 = .ok (.iload_n 1, 1) := by decide +kernel
theorem dX10_fillGivenRest_42 : decode cX10_fillGivenRest 42 = .ok (.invokevirtual 220, 3) := by decide +kernel
theorem dX10_fillGivenRest_45 : decode cX10_fillGivenRest 45 = .ok (.istore_n 3, 1) := by decide +kernel
theorem dX10_fillGivenRest_46 : decode cX10_fillGivenRest 46 = .ok (.aload_n 0, 1) := by decide +kernel
theorem dX10_fillGivenRest_47 : decode cX10_fillGivenRest 47 = .ok (.getfield 74, 3) := by decide +kernel
theorem dX10_fillGivenRest_50 : decode cX10_fillGivenRest 50 = .ok (.iload_n 1, 1) := by decide +kernel
theorem dX10_fillGivenRest_51 : decode cX10_fillGivenRest 51 = .ok (.aload_n 0, 1) := by decide +kernel
theorem dX10_fillGivenRest_52 : decode cX10_fillGivenRest 52 = .ok (.aload_n 0, 1) := by decide +kernel
theorem dX10_fillGivenRest_53 : decode cX10_fillGivenRest 53 = .ok (.getfield 10, 3) := by decide +kernel
theorem dX10_fillGivenRest_56 : decode cX10_fillGivenRest 56 = .ok (.iload_n 2, 1) := by decide +kernel
theorem dX10_fillGivenRest_57 : decode cX10_fillGivenRest 57 = .ok (.iload_n 3, 1) := by decide +kernel
theorem dX10_fillGivenRest_58 : decode cX10_fillGivenRest 58 = .ok (.invokevirtual 205, 3) := by decide +kernel
theorem dX10_fillGivenRest_61 : decode cX10_fillGivenRest 61 = .ok (.aload_n 0, 1) := by decide +kernel
theorem dX10_fillGivenRest_62 : decode cX10_fillGivenRest 62 = .ok (.getfield 74, 3) := by decide +kernel
theorem dX10_fillGivenRest_65 : decode cX10_fillGivenRest 65 = .ok (.iload_n 1, 1) := by decide +kernel
theorem dX10_fillGivenRest_66 : decode cX10_fillGivenRest 66 = .ok (.iconst 1, 1) := by decide +kernel
theorem dX10_fillGivenRest_67 : decode cX10_fillGivenRest 67 = .ok (.iload_n 3, 1) := by decide +kernel
theorem dX10_fillGivenRest_68 : decode cX10_fillGivenRest 68 = .ok (.ishl, 1) := by decide +kernel
theorem dX10_fillGivenRest_69 : decode cX10_fillGivenRest 69 = .ok (.ior, 1) := by decide +kernel
theorem dX10_fillGivenRest_70 : decode cX10_fillGivenRest 70 = .ok (.iaload, 1) := by decide +kernel
theorem dX10_fillGivenRest_71 : decode cX10_fillGivenRest 71 = .ok (.iadd, 1) := by decide +kernel
theorem dX10_fillGivenRest_72 : decode cX10_fillGivenRest 72 = .ok (.iastore, 1) := by decide +kernel
theorem dX10_fillGivenRest_73 : decode cX10_fillGivenRest 73 = .ok (.iinc 1 (-1), 3) := by decide +kernel
theorem dX10_fillGivenRest_76 : decode cX10_fillGivenRest 76 = .ok (.goto (-64), 3) := by decide +kernel
theorem dX10_fillGivenRest_79 : decode cX10_fillGivenRest 79 = .ok (.return_, 1) := by decide +kernel
def fX10_fillGivenRest_b73 (K12 : Int32 → mS → Option mS) (y1 : Int32) (s : mS) : Option mS :=
  bnd (y1 + (-1)) fun v5 =>
  K12 v5 s

def fX10_fillGivenRest_b12 : Nat → Int32 → mS → Option mS
  | 0, _, _ => none
  | k + 1, y1, s =>
    if y1 < 0 then
      some s
    else
      bO (fJ6_bitCount_0f7a4 y1 s) fun r2 =>
      bnd r2 fun v3 =>
      stA s aT_givenRest 256 y1 (nI 0) fun s4 =>
      if (gI s4 (iW_size 0)) ≤ v3 then
        fX10_fillGivenRest_b73 (fun u0 u1 => fX10_fillGivenRest_b12 k u0 u1) y1 s4
      else
        bO (fX10_givenTo v3 y1 s4) fun r6 =>
        bnd r6 fun v7 =>
        bO (fX10_apart 0 v3 v7 s4) fun r8 =>
        ldA s4 aT_givenRest 256 (y1 ||| ((nI 1) <<< (v7 &&& 31))) fun v9 =>
        stA s4 aT_givenRest 256 y1 (r8 + v9) fun s10 =>
        fX10_fillGivenRest_b73 (fun u0 u1 => fX10_fillGivenRest_b12 k u0 u1) y1 s10

def fX10_fillGivenRest (s : mS) : Option mS :=
  bnd (((nI 1) <<< ((gI s (iM_size 0)) &&& 31)) - (nI 1)) fun v1 =>
  fX10_fillGivenRest_b12 mFu v1 s

set_option maxRecDepth 20000 in
theorem wX10_fillGivenRest_b73 {ρ : mRo} {d : Nat} {P : mPo} {V : mS → List mE} (hV : mView LC V)  {res : mS} {K12 : Int32 → mS → Option mS} (hK12 : ∀ (y1 : Int32) (s : mS), K12 y1 s = some res → mG ρ (mC ρ (d + 3)) 10 4 cX10_fillGivenRest none P 12 [(0, .ref qT), (1, .int y1)] [] (V s)) (hP : P none (V res)) (y1 : Int32) (s : mS) (hf : fX10_fillGivenRest_b73 K12 y1 s = some res) : mG ρ (mC ρ (d + 3)) 10 4 cX10_fillGivenRest none P 73 [(0, .ref qT), (1, .int y1)] [] (V s) := by
  unfold fX10_fillGivenRest_b73 at hf
  refine e_iinc 1 dX10_fillGivenRest_73 (by decide) rfl hf (fun v5 hf => ?_)
  refine e_goto 12 dX10_fillGivenRest_76 (by decide) ?_
  refine e_pick [1, 0] rfl ?_
  exact hK12 v5 s hf
set_option maxRecDepth 20000 in
theorem wX10_fillGivenRest_b12 {ρ : mRo} {d : Nat} {P : mPo} {V : mS → List mE} (hV : mView LC V)  {res : mS} (hP : P none (V res)) : ∀ (k : Nat) (y1 : Int32) (s : mS), fX10_fillGivenRest_b12 k y1 s = some res → mG ρ (mC ρ (d + 3)) 10 4 cX10_fillGivenRest none P 12 [(0, .ref qT), (1, .int y1)] [] (V s) := by
  intro k
  induction k with
  | zero => intro y1 s hf; rw [fX10_fillGivenRest_b12] at hf; cases hf
  | succ k ih =>
    intro y1 s hf
    rw [fX10_fillGivenRest_b12] at hf
    refine e_iload_n 1 dX10_fillGivenRest_12 rfl rfl ?_
    refine e_if_lt 79 dX10_fillGivenRest_13 (by decide) hf (fun hf => ?_) (fun hf => ?_)
    · obtain rfl := Option.some.inj hf
      exact e_ret dX10_fillGivenRest_79 rfl hP
    · refine e_iload_n 1 dX10_fillGivenRest_16 rfl rfl ?_
      obtain ⟨r2, hg, hf⟩ := bO_some hf
      refine e_callS (as := [.int y1]) (v := (some (.int r2))) (s' := s) dX10_fillGivenRest_17 rfl rfl rfl rfl rfl (Nat.le_of_ble_eq_true rfl) (fun Q hQ => tJ6_bitCount_0f7a4 (d := (d + 2)) hV  hg hQ) ?_
      refine e_istore_n dX10_fillGivenRest_20 rfl (by decide) hf (fun v3 hf => ?_)
      refine e_aload_n 1 dX10_fillGivenRest_21 rfl rfl ?_
      refine e_getr hV dX10_fillGivenRest_22 rfl lc_T rfl ?_
      refine e_iload_n 2 dX10_fillGivenRest_25 rfl rfl ?_
      refine e_iconst (w := (nI 0)) dX10_fillGivenRest_26 (by decide) ?_
      refine e_iast hV dX10_fillGivenRest_27 lc_T_givenRest hf (fun s4 hf => ?_)
      refine e_iload_n 0 dX10_fillGivenRest_28 rfl rfl ?_
      refine e_aload_n 1 dX10_fillGivenRest_29 rfl rfl ?_
      refine e_getr hV dX10_fillGivenRest_30 rfl lc_T rfl ?_
      refine e_geti hV dX10_fillGivenRest_33 rfl (lc_W (by decide)) rfl ?_
      refine e_icmp_ge 73 dX10_fillGivenRest_36 (by decide) hf (fun hf => ?_) (fun hf => ?_)
      · refine e_pick [1, 2] rfl ?_
        exact wX10_fillGivenRest_b73 hV ih hP y1 s4 hf
      · refine e_aload_n 1 dX10_fillGivenRest_39 rfl rfl ?_
        refine e_iload_n 0 dX10_fillGivenRest_40 rfl rfl ?_
        refine e_iload_n 2 dX10_fillGivenRest_41 rfl rfl ?_
        obtain ⟨r6, hg, hf⟩ := bO_some hf
        refine e_callV (as := [.int v3, .int y1]) (v := (some (.int r6))) (s' := s4) hV dX10_fillGivenRest_42 (Or.inl rfl) rfl rfl rfl rfl (Nat.le_of_ble_eq_true rfl) lc_T rfl rfl (fun Q hQ => tX10_givenTo (d := d) hV  hg hQ) ?_
        refine e_istore_n dX10_fillGivenRest_45 rfl (by decide) hf (fun v7 hf => ?_)
        refine e_aload_n 2 dX10_fillGivenRest_46 rfl rfl ?_
        refine e_getr hV dX10_fillGivenRest_47 rfl lc_T rfl ?_
        refine e_iload_n 3 dX10_fillGivenRest_50 rfl rfl ?_
        refine e_aload_n 2 dX10_fillGivenRest_51 rfl rfl ?_
        refine e_aload_n 2 dX10_fillGivenRest_52 rfl rfl ?_
        refine e_getr hV dX10_fillGivenRest_53 rfl lc_T rfl ?_
        refine e_iload_n 1 dX10_fillGivenRest_56 rfl rfl ?_
        refine e_iload_n 0 dX10_fillGivenRest_57 rfl rfl ?_
        obtain ⟨r8, hg, hf⟩ := bO_some hf
        refine e_callV (as := [.ref (qM 0), .int v3, .int v7]) (v := (some (.int r8))) (s' := s4) hV dX10_fillGivenRest_58 (Or.inl rfl) rfl rfl rfl rfl (Nat.le_of_ble_eq_true rfl) lc_T rfl rfl (fun Q hQ => tX10_apart (d := (d + 1)) hV (by decide) hg hQ) ?_
        refine e_aload_n 2 dX10_fillGivenRest_61 rfl rfl ?_
        refine e_getr hV dX10_fillGivenRest_62 rfl lc_T rfl ?_
        refine e_iload_n 3 dX10_fillGivenRest_65 rfl rfl ?_
        refine e_iconst (w := (nI 1)) dX10_fillGivenRest_66 (by decide) ?_
        refine e_iload_n 0 dX10_fillGivenRest_67 rfl rfl ?_
        refine e_ishl dX10_fillGivenRest_68 ?_
        refine e_ior dX10_fillGivenRest_69 ?_
        refine e_iald hV dX10_fillGivenRest_70 lc_T_givenRest hf (fun v9 hf => ?_)
        refine e_iadd dX10_fillGivenRest_71 ?_
        refine e_iast hV dX10_fillGivenRest_72 lc_T_givenRest hf (fun s10 hf => ?_)
        refine e_pick [2, 3] rfl ?_
        exact wX10_fillGivenRest_b73 hV ih hP y1 s10 hf
set_option maxRecDepth 20000 in
theorem tX10_fillGivenRest {ρ : mRo} {d : Nat} {P : mPo} {V : mS → List mE} (hV : mView LC V)  {s : mS} {res : mS} (hf : fX10_fillGivenRest s = some res) (hP : P none (V res)) : mC ρ (d + 4) 130 [.ref qT] (V s) P := by
  refine ⟨_, rfl, Nat.le_of_ble_eq_true rfl, by decide, ?_⟩
  show mG ρ (mC ρ (d + 3)) 10 4 cX10_fillGivenRest none P 0 [(0, .ref qT)] [] (V s)
  unfold fX10_fillGivenRest at hf
  refine e_iconst (w := (nI 1)) dX10_fillGivenRest_0 (by decide) ?_
  refine e_aload_n 0 dX10_fillGivenRest_1 rfl rfl ?_
  refine e_getr hV dX10_fillGivenRest_2 rfl lc_T rfl ?_
  refine e_geti hV dX10_fillGivenRest_5 rfl (lc_M (by decide)) rfl ?_
  refine e_ishl dX10_fillGivenRest_8 ?_
  refine e_iconst (w := (nI 1)) dX10_fillGivenRest_9 (by decide) ?_
  refine e_isub dX10_fillGivenRest_10 ?_
  refine e_istore_n dX10_fillGivenRest_11 rfl (by decide) hf (fun v1 hf => ?_)
  refine e_pick [1, 0] rfl ?_
  exact wX10_fillGivenRest_b12 hV hP mFu v1 s hf

theorem dX10_given_0 : decode cX10_given 0 = .ok (.iload_n 1, 1) := by decide +kernel
theorem dX10_given_1 : decode cX10_given 1 = .ok (.iconst (-1), 1) := by decide +kernel
theorem dX10_given_2 : decode cX10_given 2 = .ok (.if_icmp .lt 14, 3) := by decide +kernel
theorem dX10_given_5 : decode cX10_given 5 = .ok (.iload_n 1, 1) := by decide +kernel
theorem dX10_given_6 : decode cX10_given 6 = .ok (.aload_n 0, 1) := by decide +kernel
theorem dX10_given_7 : decode cX10_given 7 = .ok (.getfield 22, 3) := by decide +kernel
theorem dX10_given_10 : decode cX10_given 10 = .ok (.getfield 215, 3) := by decide +kernel
theorem dX10_given_13 : decode cX10_given 13 = .ok (.if_icmp .lt 5, 3) := by decide +kernel
theorem dX10_given_16 : decode cX10_given 16 = .ok (.iconst (-1), 1) := by decide +kernel
theorem dX10_given_17 : decode cX10_given 17 = .ok (.ireturn, 1) := by decide +kernel
theorem dX10_given_18 : decode cX10_given 18 = .ok (.aload_n 0, 1) := by decide +kernel
theorem dX10_given_19 : decode cX10_given 19 = .ok (.getfield 22, 3) := by decide +kernel
theorem dX10_given_22 : decode cX10_given 22 = .ok (.getfield 215, 3) := by decide +kernel
theorem dX10_given_25 : decode cX10_given 25 = .ok (.aload_n 0, 1) := by decide +kernel
theorem dX10_given_26 : decode cX10_given 26 = .ok (.getfield 10, 3) := by decide +kernel
theorem dX10_given_29 : decode cX10_given 29 = .ok (.getfield 216, 3) := by decide +kernel
theorem dX10_given_32 : decode cX10_given 32 = .ok (.if_icmp .le 6, 3) := by decide +kernel
theorem dX10_given_35 : decode cX10_given 35 = .ok (.bipush (-5), 2) := by decide +kernel
theorem dX10_given_37 : decode cX10_given 37 = .ok (.ireturn, 1) := by decide +kernel
theorem dX10_given_38 : decode cX10_given 38 = .ok (.aload_n 0, 1) := by decide +kernel
theorem dX10_given_39 : decode cX10_given 39 = .ok (.invokevirtual 217, 3) := by decide +kernel
theorem dX10_given_42 : decode cX10_given 42 = .ok (.iload_n 1, 1) := by decide +kernel
theorem dX10_given_43 : decode cX10_given 43 = .ok (.iconst (-1), 1) := by decide +kernel
theorem dX10_given_44 : decode cX10_given 44 = .ok (.if_icmp .ne 10, 3) := by decide +kernel
theorem dX10_given_47 : decode cX10_given 47 = .ok (.aload_n 0, 1) := by decide +kernel
theorem dX10_given_48 : decode cX10_given 48 = .ok (.getfield 74, 3) := by decide +kernel
theorem dX10_given_51 : decode cX10_given 51 = .ok (.iconst 0, 1) := by decide +kernel
theorem dX10_given_52 : decode cX10_given 52 = .ok (.iaload, 1) := by decide +kernel
theorem dX10_given_53 : decode cX10_given 53 = .ok (.ireturn, 1) := by decide +kernel
theorem dX10_given_54 : decode cX10_given 54 = .ok (.iconst 0, 1) := by decide +kernel
theorem dX10_given_55 : decode cX10_given 55 = .ok (.istore_n 2, 1) := by decide +kernel
theorem dX10_given_56 : decode cX10_given 56 = .ok (.iconst 0, 1) := by decide +kernel
theorem dX10_given_57 : decode cX10_given 57 = .ok (.istore_n 3, 1) := by decide +kernel
theorem dX10_given_58 : decode cX10_given 58 = .ok (.iconst 0, 1) := by decide +kernel
theorem dX10_given_59 : decode cX10_given 59 = .ok (.istore 4, 2) := by decide +kernel
theorem dX10_given_61 : decode cX10_given 61 = .ok (.iload 4, 2) := by decide +kernel
theorem dX10_given_63 : decode cX10_given 63 = .ok (.iload_n 1, 1) := by decide +kernel
theorem dX10_given_64 : decode cX10_given 64 = .ok (.if_icmp .gt 23, 3) := by decide +kernel
theorem dX10_given_67 : decode cX10_given 67 = .ok (.aload_n 0, 1) := by decide +kernel
theorem dX10_given_68 : decode cX10_given 68 = .ok (.iload 4, 2) := by decide +kernel
theorem dX10_given_70 : decode cX10_given 70 = .ok (.iload_n 2, 1) := by decide +kernel
theorem dX10_given_71 : decode cX10_given 71 = .ok (.invokevirtual 220, 3) := by decide +kernel
theorem dX10_given_74 : decode cX10_given 74 = .ok (.istore_n 3, 1) := by decide +kernel
theorem dX10_given_75 : decode cX10_given 75 = .ok (.iload_n 2, 1) := by decide +kernel
theorem dX10_given_76 : decode cX10_given 76 = .ok (.iconst 1, 1) := by decide +kernel
theorem dX10_given_77 : decode cX10_given 77 = .ok (.iload_n 3, 1) := by decide +kernel
theorem dX10_given_78 : decode cX10_given 78 = .ok (.ishl, 1) := by decide +kernel
theorem dX10_given_79 : decode cX10_given 79 = .ok (.ior, 1) := by decide +kernel
theorem dX10_given_80 : decode cX10_given 80 = .ok (.istore_n 2, 1) := by decide +kernel
theorem dX10_given_81 : decode cX10_given 81 = .ok (.iinc 4 1, 3) := by decide +kernel
theorem dX10_given_84 : decode cX10_given 84 = .ok (.goto (-23), 3) := by decide +kernel
theorem dX10_given_87 : decode cX10_given 87 = .ok (.iload_n 3, 1) := by decide +kernel
theorem dX10_given_88 : decode cX10_given 88 = .ok (.ireturn, 1) := by decide +kernel
def fX10_given_b61 : Nat → Int32 → Int32 → Int32 → Int32 → mS → Option (Int32 × mS)
  | 0, _, _, _, _, _ => none
  | k + 1, y1, y2, y3, y4, s =>
    if y1 < y4 then
      some (y3, s)
    else
      bO (fX10_givenTo y4 y2 s) fun r5 =>
      bnd r5 fun v6 =>
      bnd (y2 ||| ((nI 1) <<< (v6 &&& 31))) fun v7 =>
      bnd (y4 + (nI 1)) fun v8 =>
      fX10_given_b61 k y1 v7 v6 v8 s

def fX10_given (x1 : Int32) (s : mS) : Option (Int32 × mS) :=
  if x1 < (-1) then
    some ((-1), s)
  else
    if x1 < (gI s (iW_size 0)) then
      if (gI s (iW_size 0)) ≤ (gI s (iM_size 0)) then
        bO (fX10_fillGivenRest s) fun s1 =>
        if x1 = (-1) then
          ldA s1 aT_givenRest 256 (nI 0) fun v9 =>
          some (v9, s1)
        else
          bnd (nI 0) fun v2 =>
          bnd (nI 0) fun v3 =>
          bnd (nI 0) fun v4 =>
          fX10_given_b61 mFu x1 v2 v3 v4 s1
      else
        some ((-5), s)
    else
      some ((-1), s)

set_option maxRecDepth 20000 in
theorem wX10_given_b61 {ρ : mRo} {d : Nat} {P : mPo} {V : mS → List mE} (hV : mView LC V)  {res : (Int32 × mS)} (hP : P (some (.int res.1)) (V res.2)) : ∀ (k : Nat) (y1 : Int32) (y2 : Int32) (y3 : Int32) (y4 : Int32) (s : mS), fX10_given_b61 k y1 y2 y3 y4 s = some res → mG ρ (mC ρ (d + 4)) 10 5 cX10_given (some .int) P 61 [(0, .ref qT), (1, .int y1), (2, .int y2), (3, .int y3), (4, .int y4)] [] (V s) := by
  intro k
  induction k with
  | zero => intro y1 y2 y3 y4 s hf; rw [fX10_given_b61] at hf; cases hf
  | succ k ih =>
    intro y1 y2 y3 y4 s hf
    rw [fX10_given_b61] at hf
    refine e_iload 4 dX10_given_61 rfl ?_
    refine e_iload_n 1 dX10_given_63 rfl rfl ?_
    refine e_icmp_gt 87 dX10_given_64 (by decide) hf (fun hf => ?_) (fun hf => ?_)
    · refine e_iload_n 3 dX10_given_87 rfl rfl ?_
      obtain rfl := Option.some.inj hf
      exact e_iret dX10_given_88 trivial hP
    · refine e_aload_n 0 dX10_given_67 rfl rfl ?_
      refine e_iload 4 dX10_given_68 rfl ?_
      refine e_iload_n 2 dX10_given_70 rfl rfl ?_
      obtain ⟨r5, hg, hf⟩ := bO_some hf
      refine e_callV (as := [.int y4, .int y2]) (v := (some (.int r5))) (s' := s) hV dX10_given_71 (Or.inl rfl) rfl rfl rfl rfl (Nat.le_of_ble_eq_true rfl) lc_T rfl rfl (fun Q hQ => tX10_givenTo (d := (d + 1)) hV  hg hQ) ?_
      refine e_istore_n dX10_given_74 rfl (by decide) hf (fun v6 hf => ?_)
      refine e_iload_n 3 dX10_given_75 rfl rfl ?_
      refine e_iconst (w := (nI 1)) dX10_given_76 (by decide) ?_
      refine e_iload_n 0 dX10_given_77 rfl rfl ?_
      refine e_ishl dX10_given_78 ?_
      refine e_ior dX10_given_79 ?_
      refine e_istore_n dX10_given_80 rfl (by decide) hf (fun v7 hf => ?_)
      refine e_iinc 4 dX10_given_81 (by decide) rfl hf (fun v8 hf => ?_)
      refine e_goto 61 dX10_given_84 (by decide) ?_
      refine e_pick [3, 4, 1, 2, 0] rfl ?_
      exact ih y1 v7 v6 v8 s hf
set_option maxRecDepth 20000 in
theorem tX10_given {ρ : mRo} {d : Nat} {P : mPo} {V : mS → List mE} (hV : mView LC V)  {x1 : Int32} {s : mS} {res : (Int32 × mS)} (hf : fX10_given x1 s = some res) (hP : P (some (.int res.1)) (V res.2)) : mC ρ (d + 5) 77 [.ref qT, .int x1] (V s) P := by
  refine ⟨_, rfl, Nat.le_of_ble_eq_true rfl, by decide, ?_⟩
  show mG ρ (mC ρ (d + 4)) 10 5 cX10_given (some .int) P 0 [(0, .ref qT), (1, .int x1)] [] (V s)
  unfold fX10_given at hf
  refine e_iload_n 1 dX10_given_0 rfl rfl ?_
  refine e_iconst (w := (-1)) dX10_given_1 (by decide) ?_
  refine e_icmp_lt 16 dX10_given_2 (by decide) hf (fun hf => ?_) (fun hf => ?_)
  · refine e_iconst (w := (-1)) dX10_given_16 (by decide) ?_
    obtain rfl := Option.some.inj hf
    exact e_iret dX10_given_17 trivial hP
  · refine e_iload_n 1 dX10_given_5 rfl rfl ?_
    refine e_aload_n 0 dX10_given_6 rfl rfl ?_
    refine e_getr hV dX10_given_7 rfl lc_T rfl ?_
    refine e_geti hV dX10_given_10 rfl (lc_W (by decide)) rfl ?_
    refine e_icmp_lt 18 dX10_given_13 (by decide) hf (fun hf => ?_) (fun hf => ?_)
    · refine e_aload_n 0 dX10_given_18 rfl rfl ?_
      refine e_getr hV dX10_given_19 rfl lc_T rfl ?_
      refine e_geti hV dX10_given_22 rfl (lc_W (by decide)) rfl ?_
      refine e_aload_n 0 dX10_given_25 rfl rfl ?_
      refine e_getr hV dX10_given_26 rfl lc_T rfl ?_
      refine e_geti hV dX10_given_29 rfl (lc_M (by decide)) rfl ?_
      refine e_icmp_le 38 dX10_given_32 (by decide) hf (fun hf => ?_) (fun hf => ?_)
      · refine e_aload_n 0 dX10_given_38 rfl rfl ?_
        obtain ⟨s1, hg, hf⟩ := bO_some hf
        refine e_callV (as := []) (v := none) (s' := s1) hV dX10_given_39 (Or.inl rfl) rfl rfl rfl rfl (Nat.le_of_ble_eq_true rfl) lc_T rfl rfl (fun Q hQ => tX10_fillGivenRest (d := d) hV  hg hQ) ?_
        refine e_iload_n 1 dX10_given_42 rfl rfl ?_
        refine e_iconst (w := (-1)) dX10_given_43 (by decide) ?_
        refine e_icmp_ne 54 dX10_given_44 (by decide) hf (fun hf => ?_) (fun hf => ?_)
        · refine e_iconst (w := (nI 0)) dX10_given_54 (by decide) ?_
          refine e_istore_n dX10_given_55 rfl (by decide) hf (fun v2 hf => ?_)
          refine e_iconst (w := (nI 0)) dX10_given_56 (by decide) ?_
          refine e_istore_n dX10_given_57 rfl (by decide) hf (fun v3 hf => ?_)
          refine e_iconst (w := (nI 0)) dX10_given_58 (by decide) ?_
          refine e_istore dX10_given_59 (by decide) hf (fun v4 hf => ?_)
          refine e_pick [3, 4, 2, 1, 0] rfl ?_
          exact wX10_given_b61 hV hP mFu x1 v2 v3 v4 s1 hf
        · refine e_aload_n 0 dX10_given_47 rfl rfl ?_
          refine e_getr hV dX10_given_48 rfl lc_T rfl ?_
          refine e_iconst (w := (nI 0)) dX10_given_51 (by decide) ?_
          refine e_iald hV dX10_given_52 lc_T_givenRest hf (fun v9 hf => ?_)
          obtain rfl := Option.some.inj hf
          exact e_iret dX10_given_53 trivial hP
      · refine e_bipush (w := (-5)) dX10_given_35 (by decide) ?_
        obtain rfl := Option.some.inj hf
        exact e_iret dX10_given_37 trivial hP
    · refine e_iconst (w := (-1)) dX10_given_16 (by decide) ?_
      obtain rfl := Option.some.inj hf
      exact e_iret dX10_given_17 trivial hP

theorem dX10_teach_0 : decode cX10_teach 0 = .ok (.aload_n 0, 1) := by decide +kernel
theorem dX10_teach_1 : decode cX10_teach 1 = .ok (.iload_n 1, 1) := by decide +kernel
theorem dX10_teach_2 : decode cX10_teach 2 = .ok (.invokevirtual 164, 3) := by decide +kernel
theorem dX10_teach_5 : decode cX10_teach 5 = .ok (.ifCond .eq 24, 3) := by decide +kernel
theorem dX10_teach_8 : decode cX10_teach 8 = .ok (.iload_n 2, 1) := by decide +kernel
theorem dX10_teach_9 : decode cX10_teach 9 = .ok (.ifCond .lt 20, 3) := by decide +kernel
theorem dX10_teach_12 : decode cX10_teach 12 = .ok (.iload_n 2, 1) := by decide +kernel
theorem dX10_teach_13 : decode cX10_teach 13 = .ok (.bipush 100, 2) := by decide +kernel
theorem dX10_teach_15 : decode cX10_teach 15 = .ok (.idiv, 1) := by decide +kernel
theorem dX10_teach_16 : decode cX10_teach 16 = .ok (.iconst 3, 1) := by decide +kernel
theorem dX10_teach_17 : decode cX10_teach 17 = .ok (.if_icmp .ge 12, 3) := by decide +kernel
theorem dX10_teach_20 : decode cX10_teach 20 = .ok (.iload_n 2, 1) := by decide +kernel
theorem dX10_teach_21 : decode cX10_teach 21 = .ok (.bipush 100, 2) := by decide +kernel
theorem dX10_teach_23 : decode cX10_teach 23 = .ok (.irem, 1) := by decide +kernel
theorem dX10_teach_24 : decode cX10_teach 24 = .ok (.bipush 12, 2) := by decide +kernel
theorem dX10_teach_26 : decode cX10_teach 26 = .ok (.if_icmp .le 5, 3) := by decide +kernel
theorem dX10_teach_29 : decode cX10_teach 29 = .ok (.iconst (-1), 1) := by decide +kernel
theorem dX10_teach_30 : decode cX10_teach 30 = .ok (.ireturn, 1) := by decide +kernel
theorem dX10_teach_31 : decode cX10_teach 31 = .ok (.iload_n 2, 1) := by decide +kernel
theorem dX10_teach_32 : decode cX10_teach 32 = .ok (.bipush 100, 2) := by decide +kernel
theorem dX10_teach_34 : decode cX10_teach 34 = .ok (.idiv, 1) := by decide +kernel
theorem dX10_teach_35 : decode cX10_teach 35 = .ok (.istore_n 3, 1) := by decide +kernel
theorem dX10_teach_36 : decode cX10_teach 36 = .ok (.aload_n 0, 1) := by decide +kernel
theorem dX10_teach_37 : decode cX10_teach 37 = .ok (.getfield 22, 3) := by decide +kernel
theorem dX10_teach_40 : decode cX10_teach 40 = .ok (.iload_n 1, 1) := by decide +kernel
theorem dX10_teach_41 : decode cX10_teach 41 = .ok (.bipush 10, 2) := by decide +kernel
theorem dX10_teach_43 : decode cX10_teach 43 = .ok (.idiv, 1) := by decide +kernel
theorem dX10_teach_44 : decode cX10_teach 44 = .ok (.iload_n 3, 1) := by decide +kernel
theorem dX10_teach_45 : decode cX10_teach 45 = .ok (.invokevirtual 223, 3) := by decide +kernel
theorem dX10_teach_48 : decode cX10_teach 48 = .ok (.istore 4, 2) := by decide +kernel
theorem dX10_teach_50 : decode cX10_teach 50 = .ok (.aload_n 0, 1) := by decide +kernel
theorem dX10_teach_51 : decode cX10_teach 51 = .ok (.getfield 10, 3) := by decide +kernel
theorem dX10_teach_54 : decode cX10_teach 54 = .ok (.iload_n 1, 1) := by decide +kernel
theorem dX10_teach_55 : decode cX10_teach 55 = .ok (.bipush 10, 2) := by decide +kernel
theorem dX10_teach_57 : decode cX10_teach 57 = .ok (.irem, 1) := by decide +kernel
theorem dX10_teach_58 : decode cX10_teach 58 = .ok (.iload_n 3, 1) := by decide +kernel
theorem dX10_teach_59 : decode cX10_teach 59 = .ok (.invokevirtual 187, 3) := by decide +kernel
theorem dX10_teach_62 : decode cX10_teach 62 = .ok (.istore 5, 2) := by decide +kernel
theorem dX10_teach_64 : decode cX10_teach 64 = .ok (.iconst 0, 1) := by decide +kernel
theorem dX10_teach_65 : decode cX10_teach 65 = .ok (.istore 6, 2) := by decide +kernel
theorem dX10_teach_67 : decode cX10_teach 67 = .ok (.iload 6, 2) := by decide +kernel
theorem dX10_teach_69 : decode cX10_teach 69 = .ok (.bipush 30, 2) := by decide +kernel
theorem dX10_teach_71 : decode cX10_teach 71 = .ok (.if_icmp .gt 30, 3) := by decide +kernel
theorem dX10_teach_74 : decode cX10_teach 74 = .ok (.iload 5, 2) := by decide +kernel
theorem dX10_teach_76 : decode cX10_teach 76 = .ok (.iload_n 2, 1) := by decide +kernel
theorem dX10_teach_77 : decode cX10_teach 77 = .ok (.bipush 100, 2) := by decide +kernel
theorem dX10_teach_79 : decode cX10_teach 79 = .ok (.irem, 1) := by decide +kernel
theorem dX10_teach_80 : decode cX10_teach 80 = .ok (.if_icmp .ne 6, 3) := by decide +kernel
theorem dX10_teach_83 : decode cX10_teach 83 = .ok (.iload 6, 2) := by decide +kernel
theorem dX10_teach_85 : decode cX10_teach 85 = .ok (.ireturn, 1) := by decide +kernel
theorem dX10_teach_86 : decode cX10_teach 86 = .ok (.iload 5, 2) := by decide +kernel
theorem dX10_teach_88 : decode cX10_teach 88 = .ok (.iload 4, 2) := by decide +kernel
theorem dX10_teach_90 : decode cX10_teach 90 = .ok (.invokestatic 226, 3) := by decide +kernel
theorem dX10_teach_93 : decode cX10_teach 93 = .ok (.istore 5, 2) := by decide +kernel
theorem dX10_teach_95 : decode cX10_teach 95 = .ok (.iinc 6 1, 3) := by decide +kernel
theorem dX10_teach_98 : decode cX10_teach 98 = .ok (.goto (-31), 3) := by decide +kernel
theorem dX10_teach_101 : decode cX10_teach 101 = .ok (.bipush (-2), 2) := by decide +kernel
theorem dX10_teach_103 : decode cX10_teach 103 = .ok (.ireturn, 1) := by decide +kernel
def fX10_teach_b67 : Nat → Int32 → Int32 → Int32 → Int32 → mS → Option Int32
  | 0, _, _, _, _, _ => none
  | k + 1, y2, y4, y5, y6, s =>
    if (nI 30) < y6 then
      some (-2)
    else
      if y5 = (y2 - y2 / (nI 100) * (nI 100)) then
        some y6
      else
        bO (fX2_nearer y5 y4 s) fun r8 =>
        bnd r8 fun v9 =>
        bnd (y6 + (nI 1)) fun v10 =>
        fX10_teach_b67 k y2 y4 v9 v10 s

def fX10_teach (x1 : Int32) (x2 : Int32) (s : mS) : Option Int32 :=
  bO (fX10_isPair x1 s) fun r1 =>
  if r1 = 0 then
    some (-1)
  else
    if x2 < 0 then
      some (-1)
    else
      if (nI 3) ≤ (x2 / (nI 100)) then
        some (-1)
      else
        if (x2 - x2 / (nI 100) * (nI 100)) ≤ (nI 12) then
          bnd (x2 / (nI 100)) fun v2 =>
          bO (fX9_hand 0 (x1 / (nI 10)) v2 s) fun r3 =>
          bnd r3 fun v4 =>
          bO (fX6_pull 0 (x1 - x1 / (nI 10) * (nI 10)) v2 s) fun r5 =>
          bnd r5 fun v6 =>
          bnd (nI 0) fun v7 =>
          fX10_teach_b67 mFu x2 v4 v6 v7 s
        else
          some (-1)

set_option maxRecDepth 20000 in
theorem wX10_teach_b67 {ρ : mRo} {d : Nat} {P : mPo} {V : mS → List mE} (hV : mView LC V)  {res : Int32} {s : mS} (hP : P (some (.int res)) (V s)) : ∀ (k : Nat) (y2 : Int32) (y4 : Int32) (y5 : Int32) (y6 : Int32), fX10_teach_b67 k y2 y4 y5 y6 s = some res → mG ρ (mC ρ (d + 2)) 10 7 cX10_teach (some .int) P 67 [(2, .int y2), (4, .int y4), (5, .int y5), (6, .int y6)] [] (V s) := by
  intro k
  induction k with
  | zero => intro y2 y4 y5 y6 hf; rw [fX10_teach_b67] at hf; cases hf
  | succ k ih =>
    intro y2 y4 y5 y6 hf
    rw [fX10_teach_b67] at hf
    refine e_iload 3 dX10_teach_67 rfl ?_
    refine e_bipush (w := (nI 30)) dX10_teach_69 (by decide) ?_
    refine e_icmp_gt 101 dX10_teach_71 (by decide) hf (fun hf => ?_) (fun hf => ?_)
    · refine e_bipush (w := (-2)) dX10_teach_101 (by decide) ?_
      obtain rfl := Option.some.inj hf
      exact e_iret dX10_teach_103 trivial hP
    · refine e_iload 2 dX10_teach_74 rfl ?_
      refine e_iload_n 0 dX10_teach_76 rfl rfl ?_
      refine e_bipush (w := (nI 100)) dX10_teach_77 (by decide) ?_
      refine e_irem dX10_teach_79 (by decide) ?_
      refine e_icmp_ne 86 dX10_teach_80 (by decide) hf (fun hf => ?_) (fun hf => ?_)
      · refine e_iload 2 dX10_teach_86 rfl ?_
        refine e_iload 1 dX10_teach_88 rfl ?_
        obtain ⟨r8, hg, hf⟩ := bO_some hf
        refine e_callS (as := [.int y5, .int y4]) (v := (some (.int r8))) (s' := s) dX10_teach_90 rfl rfl rfl rfl rfl (Nat.le_of_ble_eq_true rfl) (fun Q hQ => tX2_nearer (d := (d + 1)) hV  hg hQ) ?_
        refine e_istore dX10_teach_93 (by decide) hf (fun v9 hf => ?_)
        refine e_iinc 3 dX10_teach_95 (by decide) rfl hf (fun v10 hf => ?_)
        refine e_goto 67 dX10_teach_98 (by decide) ?_
        refine e_pick [2, 3, 1, 0] rfl ?_
        exact ih y2 y4 v9 v10 hf
      · refine e_iload 3 dX10_teach_83 rfl ?_
        obtain rfl := Option.some.inj hf
        exact e_iret dX10_teach_85 trivial hP
set_option maxRecDepth 20000 in
theorem tX10_teach {ρ : mRo} {d : Nat} {P : mPo} {V : mS → List mE} (hV : mView LC V)  {x1 : Int32} {x2 : Int32} {s : mS} {res : Int32} (hf : fX10_teach x1 x2 s = some res) (hP : P (some (.int res)) (V s)) : mC ρ (d + 3) 78 [.ref qT, .int x1, .int x2] (V s) P := by
  refine ⟨_, rfl, Nat.le_of_ble_eq_true rfl, by decide, ?_⟩
  show mG ρ (mC ρ (d + 2)) 10 7 cX10_teach (some .int) P 0 [(0, .ref qT), (1, .int x1), (2, .int x2)] [] (V s)
  unfold fX10_teach at hf
  refine e_aload_n 0 dX10_teach_0 rfl rfl ?_
  refine e_iload_n 1 dX10_teach_1 rfl rfl ?_
  obtain ⟨r1, hg, hf⟩ := bO_some hf
  refine e_callV (as := [.int x1]) (v := (some (.int r1))) (s' := s) hV dX10_teach_2 (Or.inl rfl) rfl rfl rfl rfl (Nat.le_of_ble_eq_true rfl) lc_T rfl rfl (fun Q hQ => tX10_isPair (d := d) hV  hg hQ) ?_
  refine e_if_eq 29 dX10_teach_5 (by decide) hf (fun hf => ?_) (fun hf => ?_)
  · refine e_iconst (w := (-1)) dX10_teach_29 (by decide) ?_
    obtain rfl := Option.some.inj hf
    exact e_iret dX10_teach_30 trivial hP
  · refine e_iload_n 2 dX10_teach_8 rfl rfl ?_
    refine e_if_lt 29 dX10_teach_9 (by decide) hf (fun hf => ?_) (fun hf => ?_)
    · refine e_iconst (w := (-1)) dX10_teach_29 (by decide) ?_
      obtain rfl := Option.some.inj hf
      exact e_iret dX10_teach_30 trivial hP
    · refine e_iload_n 2 dX10_teach_12 rfl rfl ?_
      refine e_bipush (w := (nI 100)) dX10_teach_13 (by decide) ?_
      refine e_idiv dX10_teach_15 (by decide) ?_
      refine e_iconst (w := (nI 3)) dX10_teach_16 (by decide) ?_
      refine e_icmp_ge 29 dX10_teach_17 (by decide) hf (fun hf => ?_) (fun hf => ?_)
      · refine e_iconst (w := (-1)) dX10_teach_29 (by decide) ?_
        obtain rfl := Option.some.inj hf
        exact e_iret dX10_teach_30 trivial hP
      · refine e_iload_n 2 dX10_teach_20 rfl rfl ?_
        refine e_bipush (w := (nI 100)) dX10_teach_21 (by decide) ?_
        refine e_irem dX10_teach_23 (by decide) ?_
        refine e_bipush (w := (nI 12)) dX10_teach_24 (by decide) ?_
        refine e_icmp_le 31 dX10_teach_26 (by decide) hf (fun hf => ?_) (fun hf => ?_)
        · refine e_iload_n 2 dX10_teach_31 rfl rfl ?_
          refine e_bipush (w := (nI 100)) dX10_teach_32 (by decide) ?_
          refine e_idiv dX10_teach_34 (by decide) ?_
          refine e_istore_n dX10_teach_35 rfl (by decide) hf (fun v2 hf => ?_)
          refine e_aload_n 1 dX10_teach_36 rfl rfl ?_
          refine e_getr hV dX10_teach_37 rfl lc_T rfl ?_
          refine e_iload_n 2 dX10_teach_40 rfl rfl ?_
          refine e_bipush (w := (nI 10)) dX10_teach_41 (by decide) ?_
          refine e_idiv dX10_teach_43 (by decide) ?_
          refine e_iload_n 0 dX10_teach_44 rfl rfl ?_
          obtain ⟨r3, hg, hf⟩ := bO_some hf
          refine e_callV (as := [.int (x1 / (nI 10)), .int v2]) (v := (some (.int r3))) (s' := s) hV dX10_teach_45 (Or.inl rfl) rfl rfl rfl rfl (Nat.le_of_ble_eq_true rfl) (lc_W (by decide)) rfl rfl (fun Q hQ => tX9_hand (d := (d + 1)) hV (by decide) hg hQ) ?_
          refine e_istore dX10_teach_48 (by decide) hf (fun v4 hf => ?_)
          refine e_aload_n 2 dX10_teach_50 rfl rfl ?_
          refine e_getr hV dX10_teach_51 rfl lc_T rfl ?_
          refine e_iload_n 3 dX10_teach_54 rfl rfl ?_
          refine e_bipush (w := (nI 10)) dX10_teach_55 (by decide) ?_
          refine e_irem dX10_teach_57 (by decide) ?_
          refine e_iload_n 1 dX10_teach_58 rfl rfl ?_
          obtain ⟨r5, hg, hf⟩ := bO_some hf
          refine e_callV (as := [.int (x1 - x1 / (nI 10) * (nI 10)), .int v2]) (v := (some (.int r5))) (s' := s) hV dX10_teach_59 (Or.inl rfl) rfl rfl rfl rfl (Nat.le_of_ble_eq_true rfl) (lc_M (by decide)) rfl rfl (fun Q hQ => tX6_pull (d := (d + 1)) hV (by decide) hg hQ) ?_
          refine e_istore dX10_teach_62 (by decide) hf (fun v6 hf => ?_)
          refine e_iconst (w := (nI 0)) dX10_teach_64 (by decide) ?_
          refine e_istore dX10_teach_65 (by decide) hf (fun v7 hf => ?_)
          refine e_pick [6, 2, 1, 0] rfl ?_
          exact wX10_teach_b67 hV hP mFu x2 v4 v6 v7 hf
        · refine e_iconst (w := (-1)) dX10_teach_29 (by decide) ?_
          obtain rfl := Option.some.inj hf
          exact e_iret dX10_teach_30 trivial hP

theorem dX10_bring_0 : decode cX10_bring 0 = .ok (.aload_n 0, 1) := by decide +kernel
theorem dX10_bring_1 : decode cX10_bring 1 = .ok (.getfield 10, 3) := by decide +kernel
theorem dX10_bring_4 : decode cX10_bring 4 = .ok (.iload_n 1, 1) := by decide +kernel
theorem dX10_bring_5 : decode cX10_bring 5 = .ok (.invokevirtual 174, 3) := by decide +kernel
theorem dX10_bring_8 : decode cX10_bring 8 = .ok (.ifCond .eq 15, 3) := by decide +kernel
theorem dX10_bring_11 : decode cX10_bring 11 = .ok (.iload_n 2, 1) := by decide +kernel
theorem dX10_bring_12 : decode cX10_bring 12 = .ok (.invokestatic 121, 3) := by decide +kernel
theorem dX10_bring_15 : decode cX10_bring 15 = .ok (.ifCond .eq 8, 3) := by decide +kernel
theorem dX10_bring_18 : decode cX10_bring 18 = .ok (.iload_n 3, 1) := by decide +kernel
theorem dX10_bring_19 : decode cX10_bring 19 = .ok (.iconst (-1), 1) := by decide +kernel
theorem dX10_bring_20 : decode cX10_bring 20 = .ok (.if_icmp .ge 5, 3) := by decide +kernel
theorem dX10_bring_23 : decode cX10_bring 23 = .ok (.iconst (-1), 1) := by decide +kernel
theorem dX10_bring_24 : decode cX10_bring 24 = .ok (.ireturn, 1) := by decide +kernel
theorem dX10_bring_25 : decode cX10_bring 25 = .ok (.aload_n 0, 1) := by decide +kernel
theorem dX10_bring_26 : decode cX10_bring 26 = .ok (.getfield 70, 3) := by decide +kernel
theorem dX10_bring_29 : decode cX10_bring 29 = .ok (.aload_n 0, 1) := by decide +kernel
theorem dX10_bring_30 : decode cX10_bring 30 = .ok (.getfield 10, 3) := by decide +kernel
theorem dX10_bring_33 : decode cX10_bring 33 = .ok (.iload_n 1, 1) := by decide +kernel
theorem dX10_bring_34 : decode cX10_bring 34 = .ok (.invokevirtual 229, 3) := by decide +kernel
theorem dX10_bring_37 : decode cX10_bring 37 = .ok (.iload_n 2, 1) := by decide +kernel
theorem dX10_bring_38 : decode cX10_bring 38 = .ok (.aload_n 0, 1) := by decide +kernel
theorem dX10_bring_39 : decode cX10_bring 39 = .ok (.getfield 22, 3) := by decide +kernel
theorem dX10_bring_42 : decode cX10_bring 42 = .ok (.invokevirtual 232, 3) := by decide +kernel
theorem dX10_bring_45 : decode cX10_bring 45 = .ok (.istore 4, 2) := by decide +kernel
theorem dX10_bring_47 : decode cX10_bring 47 = .ok (.iload_n 3, 1) := by decide +kernel
theorem dX10_bring_48 : decode cX10_bring 48 = .ok (.iconst (-1), 1) := by decide +kernel
theorem dX10_bring_49 : decode cX10_bring 49 = .ok (.if_icmp .eq 8, 3) := by decide +kernel
theorem dX10_bring_52 : decode cX10_bring 52 = .ok (.iload 4, 2) := by decide +kernel
theorem dX10_bring_54 : decode cX10_bring 54 = .ok (.ifCond .ge 16, 3) := by decide +kernel
theorem dX10_bring_57 : decode cX10_bring 57 = .ok (.iload 4, 2) := by decide +kernel
theorem dX10_bring_59 : decode cX10_bring 59 = .ok (.ifCond .ge 8, 3) := by decide +kernel
theorem dX10_bring_62 : decode cX10_bring 62 = .ok (.bipush (-2), 2) := by decide +kernel
theorem dX10_bring_64 : decode cX10_bring 64 = .ok (.goto 5, 3) := by decide +kernel
theorem dX10_bring_67 : decode cX10_bring 67 = .ok (.iload 4, 2) := by decide +kernel
theorem dX10_bring_69 : decode cX10_bring 69 = .ok (.ireturn, 1) := by decide +kernel
theorem dX10_bring_70 : decode cX10_bring 70 = .ok (.iload_n 3, 1) := by decide +kernel
theorem dX10_bring_71 : decode cX10_bring 71 = .ok (.iload 4, 2) := by decide +kernel
theorem dX10_bring_73 : decode cX10_bring 73 = .ok (.if_icmp .ge 16, 3) := by decide +kernel
theorem dX10_bring_76 : decode cX10_bring 76 = .ok (.aload_n 0, 1) := by decide +kernel
theorem dX10_bring_77 : decode cX10_bring 77 = .ok (.getfield 70, 3) := by decide +kernel
theorem dX10_bring_80 : decode cX10_bring 80 = .ok (.iload 4, 2) := by decide +kernel
theorem dX10_bring_82 : decode cX10_bring 82 = .ok (.iload_n 3, 1) := by decide +kernel
theorem dX10_bring_83 : decode cX10_bring 83 = .ok (.invokevirtual 236, 3) := by decide +kernel
theorem dX10_bring_86 : decode cX10_bring 86 = .ok (.goto 5, 3) := by decide +kernel
theorem dX10_bring_89 : decode cX10_bring 89 = .ok (.bipush (-2), 2) := by decide +kernel
theorem dX10_bring_91 : decode cX10_bring 91 = .ok (.ireturn, 1) := by decide +kernel
def fX10_bring_b57 (y4 : Int32) (s : mS) : Option (Int32 × mS) :=
  if 0 ≤ y4 then
    some (y4, s)
  else
    some ((-2), s)

def fX10_bring (x1 : Int32) (x2 : Int32) (x3 : Int32) (s : mS) : Option (Int32 × mS) :=
  bO (fX6_has 0 x1 s) fun r1 =>
  if r1 = 0 then
    some ((-1), s)
  else
    bO (fX2_isCode x2 s) fun r2 =>
    if r2 = 0 then
      some ((-1), s)
    else
      if (-1) ≤ x3 then
        bO (fX6_pullCode 0 x1 s) fun r3 =>
        bP (fX0_fewest 0 r3 x2 s) fun r4 s5 =>
        bnd r4 fun v6 =>
        if x3 = (-1) then
          fX10_bring_b57 v6 s5
        else
          if 0 ≤ v6 then
            if v6 ≤ x3 then
              some ((-2), s5)
            else
              bO (fX0_writerOfStep v6 x3 s5) fun r7 =>
              some (r7, s5)
          else
            fX10_bring_b57 v6 s5
      else
        some ((-1), s)

set_option maxRecDepth 20000 in
theorem wX10_bring_b57 {ρ : mRo} {d : Nat} {P : mPo} {V : mS → List mE} (hV : mView LC V)  {res : (Int32 × mS)} (hP : P (some (.int res.1)) (V res.2)) (y4 : Int32) (s : mS) (hf : fX10_bring_b57 y4 s = some res) : mG ρ (mC ρ (d + 3)) 10 5 cX10_bring (some .int) P 57 [(4, .int y4)] [] (V s) := by
  unfold fX10_bring_b57 at hf
  refine e_iload 0 dX10_bring_57 rfl ?_
  refine e_if_ge 67 dX10_bring_59 (by decide) hf (fun hf => ?_) (fun hf => ?_)
  · refine e_iload 0 dX10_bring_67 rfl ?_
    obtain rfl := Option.some.inj hf
    exact e_iret dX10_bring_69 trivial hP
  · refine e_bipush (w := (-2)) dX10_bring_62 (by decide) ?_
    refine e_goto 69 dX10_bring_64 (by decide) ?_
    obtain rfl := Option.some.inj hf
    exact e_iret dX10_bring_69 trivial hP
set_option maxRecDepth 20000 in
theorem tX10_bring {ρ : mRo} {d : Nat} {P : mPo} {V : mS → List mE} (hV : mView LC V)  {x1 : Int32} {x2 : Int32} {x3 : Int32} {s : mS} {res : (Int32 × mS)} (hf : fX10_bring x1 x2 x3 s = some res) (hP : P (some (.int res.1)) (V res.2)) : mC ρ (d + 4) 79 [.ref qT, .int x1, .int x2, .int x3] (V s) P := by
  refine ⟨_, rfl, Nat.le_of_ble_eq_true rfl, by decide, ?_⟩
  show mG ρ (mC ρ (d + 3)) 10 5 cX10_bring (some .int) P 0 [(0, .ref qT), (1, .int x1), (2, .int x2), (3, .int x3)] [] (V s)
  unfold fX10_bring at hf
  refine e_aload_n 0 dX10_bring_0 rfl rfl ?_
  refine e_getr hV dX10_bring_1 rfl lc_T rfl ?_
  refine e_iload_n 1 dX10_bring_4 rfl rfl ?_
  obtain ⟨r1, hg, hf⟩ := bO_some hf
  refine e_callV (as := [.int x1]) (v := (some (.int r1))) (s' := s) hV dX10_bring_5 (Or.inl rfl) rfl rfl rfl rfl (Nat.le_of_ble_eq_true rfl) (lc_M (by decide)) rfl rfl (fun Q hQ => tX6_has (d := (d + 2)) hV (by decide) hg hQ) ?_
  refine e_if_eq 23 dX10_bring_8 (by decide) hf (fun hf => ?_) (fun hf => ?_)
  · refine e_iconst (w := (-1)) dX10_bring_23 (by decide) ?_
    obtain rfl := Option.some.inj hf
    exact e_iret dX10_bring_24 trivial hP
  · refine e_iload_n 2 dX10_bring_11 rfl rfl ?_
    obtain ⟨r2, hg, hf⟩ := bO_some hf
    refine e_callS (as := [.int x2]) (v := (some (.int r2))) (s' := s) dX10_bring_12 rfl rfl rfl rfl rfl (Nat.le_of_ble_eq_true rfl) (fun Q hQ => tX2_isCode (d := (d + 2)) hV  hg hQ) ?_
    refine e_if_eq 23 dX10_bring_15 (by decide) hf (fun hf => ?_) (fun hf => ?_)
    · refine e_iconst (w := (-1)) dX10_bring_23 (by decide) ?_
      obtain rfl := Option.some.inj hf
      exact e_iret dX10_bring_24 trivial hP
    · refine e_iload_n 3 dX10_bring_18 rfl rfl ?_
      refine e_iconst (w := (-1)) dX10_bring_19 (by decide) ?_
      refine e_icmp_ge 25 dX10_bring_20 (by decide) hf (fun hf => ?_) (fun hf => ?_)
      · refine e_aload_n 0 dX10_bring_25 rfl rfl ?_
        refine e_getr hV dX10_bring_26 rfl lc_T rfl ?_
        refine e_aload_n 0 dX10_bring_29 rfl rfl ?_
        refine e_getr hV dX10_bring_30 rfl lc_T rfl ?_
        refine e_iload_n 1 dX10_bring_33 rfl rfl ?_
        obtain ⟨r3, hg, hf⟩ := bO_some hf
        refine e_callV (as := [.int x1]) (v := (some (.int r3))) (s' := s) hV dX10_bring_34 (Or.inl rfl) rfl rfl rfl rfl (Nat.le_of_ble_eq_true rfl) (lc_M (by decide)) rfl rfl (fun Q hQ => tX6_pullCode (d := (d + 1)) hV (by decide) hg hQ) ?_
        refine e_iload_n 2 dX10_bring_37 rfl rfl ?_
        refine e_aload_n 0 dX10_bring_38 rfl rfl ?_
        refine e_getr hV dX10_bring_39 rfl lc_T rfl ?_
        obtain ⟨r4, s5, hg, hf⟩ := bP_some hf
        refine e_callV (as := [.int r3, .int x2, .ref (qW 0)]) (v := (some (.int r4))) (s' := s5) hV dX10_bring_42 (Or.inl rfl) rfl rfl rfl rfl (Nat.le_of_ble_eq_true rfl) lc_B rfl rfl (fun Q hQ => tX0_fewest (d := d) hV (by decide) hg hQ) ?_
        refine e_istore dX10_bring_45 (by decide) hf (fun v6 hf => ?_)
        refine e_iload_n 4 dX10_bring_47 rfl rfl ?_
        refine e_iconst (w := (-1)) dX10_bring_48 (by decide) ?_
        refine e_icmp_eq 57 dX10_bring_49 (by decide) hf (fun hf => ?_) (fun hf => ?_)
        · refine e_pick [0] rfl ?_
          exact wX10_bring_b57 hV hP v6 s5 hf
        · refine e_iload 0 dX10_bring_52 rfl ?_
          refine e_if_ge 70 dX10_bring_54 (by decide) hf (fun hf => ?_) (fun hf => ?_)
          · refine e_iload_n 4 dX10_bring_70 rfl rfl ?_
            refine e_iload 0 dX10_bring_71 rfl ?_
            refine e_icmp_ge 89 dX10_bring_73 (by decide) hf (fun hf => ?_) (fun hf => ?_)
            · refine e_bipush (w := (-2)) dX10_bring_89 (by decide) ?_
              obtain rfl := Option.some.inj hf
              exact e_iret dX10_bring_91 trivial hP
            · refine e_aload_n 1 dX10_bring_76 rfl rfl ?_
              refine e_getr hV dX10_bring_77 rfl lc_T rfl ?_
              refine e_iload 0 dX10_bring_80 rfl ?_
              refine e_iload_n 4 dX10_bring_82 rfl rfl ?_
              obtain ⟨r7, hg, hf⟩ := bO_some hf
              refine e_callV (as := [.int v6, .int x3]) (v := (some (.int r7))) (s' := s5) hV dX10_bring_83 (Or.inl rfl) rfl rfl rfl rfl (Nat.le_of_ble_eq_true rfl) lc_B rfl rfl (fun Q hQ => tX0_writerOfStep (d := (d + 2)) hV  hg hQ) ?_
              refine e_goto 91 dX10_bring_86 (by decide) ?_
              obtain rfl := Option.some.inj hf
              exact e_iret dX10_bring_91 trivial hP
          · refine e_pick [0] rfl ?_
            exact wX10_bring_b57 hV hP v6 s5 hf
      · refine e_iconst (w := (-1)) dX10_bring_23 (by decide) ?_
        obtain rfl := Option.some.inj hf
        exact e_iret dX10_bring_24 trivial hP

theorem dX10_fits_0 : decode cX10_fits 0 = .ok (.iconst 0, 1) := by decide +kernel
theorem dX10_fits_1 : decode cX10_fits 1 = .ok (.istore 5, 2) := by decide +kernel
theorem dX10_fits_3 : decode cX10_fits 3 = .ok (.iload 5, 2) := by decide +kernel
theorem dX10_fits_5 : decode cX10_fits 5 = .ok (.iconst 3, 1) := by decide +kernel
theorem dX10_fits_6 : decode cX10_fits 6 = .ok (.if_icmp .ge 42, 3) := by decide +kernel
theorem dX10_fits_9 : decode cX10_fits 9 = .ok (.iload 5, 2) := by decide +kernel
theorem dX10_fits_11 : decode cX10_fits 11 = .ok (.aload_n 1, 1) := by decide +kernel
theorem dX10_fits_12 : decode cX10_fits 12 = .ok (.getfield 109, 3) := by decide +kernel
theorem dX10_fits_15 : decode cX10_fits 15 = .ok (.if_icmp .ge 33, 3) := by decide +kernel
theorem dX10_fits_18 : decode cX10_fits 18 = .ok (.aload_n 1, 1) := by decide +kernel
theorem dX10_fits_19 : decode cX10_fits 19 = .ok (.getfield 117, 3) := by decide +kernel
theorem dX10_fits_22 : decode cX10_fits 22 = .ok (.iload 5, 2) := by decide +kernel
theorem dX10_fits_24 : decode cX10_fits 24 = .ok (.laload, 1) := by decide +kernel
theorem dX10_fits_25 : decode cX10_fits 25 = .ok (.aload_n 0, 1) := by decide +kernel
theorem dX10_fits_26 : decode cX10_fits 26 = .ok (.aload_n 2, 1) := by decide +kernel
theorem dX10_fits_27 : decode cX10_fits 27 = .ok (.iload_n 3, 1) := by decide +kernel
theorem dX10_fits_28 : decode cX10_fits 28 = .ok (.iload 4, 2) := by decide +kernel
theorem dX10_fits_30 : decode cX10_fits 30 = .ok (.iload 5, 2) := by decide +kernel
theorem dX10_fits_32 : decode cX10_fits 32 = .ok (.invokevirtual 167, 3) := by decide +kernel
theorem dX10_fits_35 : decode cX10_fits 35 = .ok (.i2l, 1) := by decide +kernel
theorem dX10_fits_36 : decode cX10_fits 36 = .ok (.lcmp, 1) := by decide +kernel
theorem dX10_fits_37 : decode cX10_fits 37 = .ok (.ifCond .eq 5, 3) := by decide +kernel
theorem dX10_fits_40 : decode cX10_fits 40 = .ok (.iconst 0, 1) := by decide +kernel
theorem dX10_fits_41 : decode cX10_fits 41 = .ok (.ireturn, 1) := by decide +kernel
theorem dX10_fits_42 : decode cX10_fits 42 = .ok (.iinc 5 1, 3) := by decide +kernel
theorem dX10_fits_45 : decode cX10_fits 45 = .ok (.goto (-42), 3) := by decide +kernel
theorem dX10_fits_48 : decode cX10_fits 48 = .ok (.iconst 1, 1) := by decide +kernel
theorem dX10_fits_49 : decode cX10_fits 49 = .ok (.ireturn, 1) := by decide +kernel
def fX10_fits_b3 : Nat → Nat → Nat → Int32 → Int32 → Int32 → mS → Option (Int32 × mS)
  | 0, _, _, _, _, _, _ => none
  | k + 1, k1, k2, y3, y4, y5, s =>
    if (nI 3) ≤ y5 then
      some ((nI 1), s)
    else
      if (gI s (iS_size k1)) ≤ y5 then
        some ((nI 1), s)
      else
        ldL s (lS_cells k1) 60 y5 fun v2 =>
        bP (fX10_shown k2 y3 y4 y5 s) fun r3 s4 =>
        if (lg_cmp v2 (Int32.toInt64 r3)) = 0 then
          bnd (y5 + (nI 1)) fun v5 =>
          fX10_fits_b3 k k1 k2 y3 y4 v5 s4
        else
          some ((nI 0), s4)

def fX10_fits (k1 : Nat) (k2 : Nat) (x3 : Int32) (x4 : Int32) (s : mS) : Option (Int32 × mS) :=
  bnd (nI 0) fun v1 =>
  fX10_fits_b3 mFu k1 k2 x3 x4 v1 s

set_option maxRecDepth 20000 in
theorem wX10_fits_b3 {ρ : mRo} {d : Nat} {P : mPo} {V : mS → List mE} (hV : mView LC V)  {res : (Int32 × mS)} (hP : P (some (.int res.1)) (V res.2)) : ∀ (k : Nat) (k1 : Nat) (hk1 : k1 < 6) (k2 : Nat) (hk2 : k2 < 3) (y3 : Int32) (y4 : Int32) (y5 : Int32) (s : mS), fX10_fits_b3 k k1 k2 y3 y4 y5 s = some res → mG ρ (mC ρ (d + 5)) 10 6 cX10_fits (some .boolean) P 3 [(0, .ref qT), (1, .ref (qS k1)), (2, .ref (qM k2)), (3, .int y3), (4, .int y4), (5, .int y5)] [] (V s) := by
  intro k
  induction k with
  | zero => intro k1 hk1 k2 hk2 y3 y4 y5 s hf; rw [fX10_fits_b3] at hf; cases hf
  | succ k ih =>
    intro k1 hk1 k2 hk2 y3 y4 y5 s hf
    rw [fX10_fits_b3] at hf
    refine e_iload 5 dX10_fits_3 rfl ?_
    refine e_iconst (w := (nI 3)) dX10_fits_5 (by decide) ?_
    refine e_icmp_ge 48 dX10_fits_6 (by decide) hf (fun hf => ?_) (fun hf => ?_)
    · refine e_iconst (w := (nI 1)) dX10_fits_48 (by decide) ?_
      obtain rfl := Option.some.inj hf
      exact e_iret dX10_fits_49 (Or.inr rfl) hP
    · refine e_iload 5 dX10_fits_9 rfl ?_
      refine e_aload_n 1 dX10_fits_11 rfl rfl ?_
      refine e_geti hV dX10_fits_12 rfl (lc_S hk1) rfl ?_
      refine e_icmp_ge 48 dX10_fits_15 (by decide) hf (fun hf => ?_) (fun hf => ?_)
      · refine e_iconst (w := (nI 1)) dX10_fits_48 (by decide) ?_
        obtain rfl := Option.some.inj hf
        exact e_iret dX10_fits_49 (Or.inr rfl) hP
      · refine e_aload_n 1 dX10_fits_18 rfl rfl ?_
        refine e_getr hV dX10_fits_19 rfl (lc_S hk1) rfl ?_
        refine e_iload 5 dX10_fits_22 rfl ?_
        refine e_lald hV dX10_fits_24 (lc_S_cells hk1) hf (fun v2 hf => ?_)
        refine e_aload_n 0 dX10_fits_25 rfl rfl ?_
        refine e_aload_n 2 dX10_fits_26 rfl rfl ?_
        refine e_iload_n 3 dX10_fits_27 rfl rfl ?_
        refine e_iload 4 dX10_fits_28 rfl ?_
        refine e_iload 5 dX10_fits_30 rfl ?_
        obtain ⟨r3, s4, hg, hf⟩ := bP_some hf
        refine e_callV (as := [.ref (qM k2), .int y3, .int y4, .int y5]) (v := (some (.int r3))) (s' := s4) hV dX10_fits_32 (Or.inl rfl) rfl rfl rfl rfl (Nat.le_of_ble_eq_true rfl) lc_T rfl rfl (fun Q hQ => tX10_shown (d := d) hV hk2 hg hQ) ?_
        refine e_i2l dX10_fits_35 ?_
        refine e_lcmp dX10_fits_36 ?_
        refine e_if_eq 42 dX10_fits_37 (by decide) hf (fun hf => ?_) (fun hf => ?_)
        · refine e_iinc 5 dX10_fits_42 (by decide) rfl hf (fun v5 hf => ?_)
          refine e_goto 3 dX10_fits_45 (by decide) ?_
          refine e_pick [1, 2, 3, 4, 5, 0] rfl ?_
          exact ih k1 hk1 k2 hk2 y3 y4 v5 s4 hf
        · refine e_iconst (w := (nI 0)) dX10_fits_40 (by decide) ?_
          obtain rfl := Option.some.inj hf
          exact e_iret dX10_fits_41 (Or.inl rfl) hP
set_option maxRecDepth 20000 in
theorem tX10_fits {ρ : mRo} {d : Nat} {P : mPo} {V : mS → List mE} (hV : mView LC V)  {k1 : Nat} (hk1 : k1 < 6) {k2 : Nat} (hk2 : k2 < 3) {x3 : Int32} {x4 : Int32} {s : mS} {res : (Int32 × mS)} (hf : fX10_fits k1 k2 x3 x4 s = some res) (hP : P (some (.int res.1)) (V res.2)) : mC ρ (d + 6) 132 [.ref qT, .ref (qS k1), .ref (qM k2), .int x3, .int x4] (V s) P := by
  refine ⟨_, rfl, Nat.le_of_ble_eq_true rfl, by decide, ?_⟩
  show mG ρ (mC ρ (d + 5)) 10 6 cX10_fits (some .boolean) P 0 [(0, .ref qT), (1, .ref (qS k1)), (2, .ref (qM k2)), (3, .int x3), (4, .int x4)] [] (V s)
  unfold fX10_fits at hf
  refine e_iconst (w := (nI 0)) dX10_fits_0 (by decide) ?_
  refine e_istore dX10_fits_1 (by decide) hf (fun v1 hf => ?_)
  refine e_pick [1, 2, 3, 4, 5, 0] rfl ?_
  exact wX10_fits_b3 hV hP mFu k1 hk1 k2 hk2 x3 x4 v1 s hf

theorem dX10_writersFor_0 : decode cX10_writersFor 0 = .ok (.iconst 0, 1) := by decide +kernel
theorem dX10_writersFor_1 : decode cX10_writersFor 1 = .ok (.istore_n 3, 1) := by decide +kernel
theorem dX10_writersFor_2 : decode cX10_writersFor 2 = .ok (.iconst 0, 1) := by decide +kernel
theorem dX10_writersFor_3 : decode cX10_writersFor 3 = .ok (.istore 4, 2) := by decide +kernel
theorem dX10_writersFor_5 : decode cX10_writersFor 5 = .ok (.iload 4, 2) := by decide +kernel
theorem dX10_writersFor_7 : decode cX10_writersFor 7 = .ok (.aload_n 0, 1) := by decide +kernel
theorem dX10_writersFor_8 : decode cX10_writersFor 8 = .ok (.getfield 22, 3) := by decide +kernel
theorem dX10_writersFor_11 : decode cX10_writersFor 11 = .ok (.getfield 215, 3) := by decide +kernel
theorem dX10_writersFor_14 : decode cX10_writersFor 14 = .ok (.if_icmp .ge 31, 3) := by decide +kernel
theorem dX10_writersFor_17 : decode cX10_writersFor 17 = .ok (.aload_n 0, 1) := by decide +kernel
theorem dX10_writersFor_18 : decode cX10_writersFor 18 = .ok (.aload_n 1, 1) := by decide +kernel
theorem dX10_writersFor_19 : decode cX10_writersFor 19 = .ok (.aload_n 0, 1) := by decide +kernel
theorem dX10_writersFor_20 : decode cX10_writersFor 20 = .ok (.getfield 10, 3) := by decide +kernel
theorem dX10_writersFor_23 : decode cX10_writersFor 23 = .ok (.iload 4, 2) := by decide +kernel
theorem dX10_writersFor_25 : decode cX10_writersFor 25 = .ok (.iload_n 2, 1) := by decide +kernel
theorem dX10_writersFor_26 : decode cX10_writersFor 26 = .ok (.invokevirtual 242, 3) := by decide +kernel
theorem dX10_writersFor_29 : decode cX10_writersFor 29 = .ok (.ifCond .eq 10, 3) := by decide +kernel
theorem dX10_writersFor_32 : decode cX10_writersFor 32 = .ok (.iload_n 3, 1) := by decide +kernel
theorem dX10_writersFor_33 : decode cX10_writersFor 33 = .ok (.iconst 1, 1) := by decide +kernel
theorem dX10_writersFor_34 : decode cX10_writersFor 34 = .ok (.iload 4, 2) := by decide +kernel
theorem dX10_writersFor_36 : decode cX10_writersFor 36 = .ok (.ishl, 1) := by decide +kernel
theorem dX10_writersFor_37 : decode cX10_writersFor 37 = .ok (.ior, 1) := by decide +kernel
theorem dX10_writersFor_38 : decode cX10_writersFor 38 = .ok (.istore_n 3, 1) := by decide +kernel
theorem dX10_writersFor_39 : decode cX10_writersFor 39 = .ok (.iinc 4 1, 3) := by decide +kernel
theorem dX10_writersFor_42 : decode cX10_writersFor 42 = .ok (.goto (-37), 3) := by decide +kernel
theorem dX10_writersFor_45 : decode cX10_writersFor 45 = .ok (.iload_n 3, 1) := by decide +kernel
theorem dX10_writersFor_46 : decode cX10_writersFor 46 = .ok (.ireturn, 1) := by decide +kernel
def fX10_writersFor_b39 (K5 : Nat → Int32 → Int32 → Int32 → mS → Option (Int32 × mS)) (k1 : Nat) (y2 : Int32) (y3 : Int32) (y4 : Int32) (s : mS) : Option (Int32 × mS) :=
  bnd (y4 + (nI 1)) fun v5 =>
  K5 k1 y2 y3 v5 s

def fX10_writersFor_b5 : Nat → Nat → Int32 → Int32 → Int32 → mS → Option (Int32 × mS)
  | 0, _, _, _, _, _ => none
  | k + 1, k1, y2, y3, y4, s =>
    if (gI s (iW_size 0)) ≤ y4 then
      some (y3, s)
    else
      bP (fX10_fits k1 0 y4 y2 s) fun r3 s4 =>
      if r3 = 0 then
        fX10_writersFor_b39 (fun u0 u1 u2 u3 u4 => fX10_writersFor_b5 k u0 u1 u2 u3 u4) k1 y2 y3 y4 s4
      else
        bnd (y3 ||| ((nI 1) <<< (y4 &&& 31))) fun v6 =>
        fX10_writersFor_b39 (fun u0 u1 u2 u3 u4 => fX10_writersFor_b5 k u0 u1 u2 u3 u4) k1 y2 v6 y4 s4

def fX10_writersFor (k1 : Nat) (x2 : Int32) (s : mS) : Option (Int32 × mS) :=
  bnd (nI 0) fun v1 =>
  bnd (nI 0) fun v2 =>
  fX10_writersFor_b5 mFu k1 x2 v1 v2 s

set_option maxRecDepth 20000 in
theorem wX10_writersFor_b39 {ρ : mRo} {d : Nat} {P : mPo} {V : mS → List mE} (hV : mView LC V)  {res : (Int32 × mS)} {K5 : Nat → Int32 → Int32 → Int32 → mS → Option (Int32 × mS)} (hK5 : ∀ (k1 : Nat) (hk1 : k1 < 6) (y2 : Int32) (y3 : Int32) (y4 : Int32) (s : mS), K5 k1 y2 y3 y4 s = some res → mG ρ (mC ρ (d + 6)) 10 5 cX10_writersFor (some .int) P 5 [(0, .ref qT), (1, .ref (qS k1)), (2, .int y2), (3, .int y3), (4, .int y4)] [] (V s)) (hP : P (some (.int res.1)) (V res.2)) (k1 : Nat) (hk1 : k1 < 6) (y2 : Int32) (y3 : Int32) (y4 : Int32) (s : mS) (hf : fX10_writersFor_b39 K5 k1 y2 y3 y4 s = some res) : mG ρ (mC ρ (d + 6)) 10 5 cX10_writersFor (some .int) P 39 [(0, .ref qT), (1, .ref (qS k1)), (2, .int y2), (3, .int y3), (4, .int y4)] [] (V s) := by
  unfold fX10_writersFor_b39 at hf
  refine e_iinc 4 dX10_writersFor_39 (by decide) rfl hf (fun v5 hf => ?_)
  refine e_goto 5 dX10_writersFor_42 (by decide) ?_
  refine e_pick [1, 2, 3, 4, 0] rfl ?_
  exact hK5 k1 hk1 y2 y3 v5 s hf
set_option maxRecDepth 20000 in
theorem wX10_writersFor_b5 {ρ : mRo} {d : Nat} {P : mPo} {V : mS → List mE} (hV : mView LC V)  {res : (Int32 × mS)} (hP : P (some (.int res.1)) (V res.2)) : ∀ (k : Nat) (k1 : Nat) (hk1 : k1 < 6) (y2 : Int32) (y3 : Int32) (y4 : Int32) (s : mS), fX10_writersFor_b5 k k1 y2 y3 y4 s = some res → mG ρ (mC ρ (d + 6)) 10 5 cX10_writersFor (some .int) P 5 [(0, .ref qT), (1, .ref (qS k1)), (2, .int y2), (3, .int y3), (4, .int y4)] [] (V s) := by
  intro k
  induction k with
  | zero => intro k1 hk1 y2 y3 y4 s hf; rw [fX10_writersFor_b5] at hf; cases hf
  | succ k ih =>
    intro k1 hk1 y2 y3 y4 s hf
    rw [fX10_writersFor_b5] at hf
    refine e_iload 4 dX10_writersFor_5 rfl ?_
    refine e_aload_n 0 dX10_writersFor_7 rfl rfl ?_
    refine e_getr hV dX10_writersFor_8 rfl lc_T rfl ?_
    refine e_geti hV dX10_writersFor_11 rfl (lc_W (by decide)) rfl ?_
    refine e_icmp_ge 45 dX10_writersFor_14 (by decide) hf (fun hf => ?_) (fun hf => ?_)
    · refine e_iload_n 3 dX10_writersFor_45 rfl rfl ?_
      obtain rfl := Option.some.inj hf
      exact e_iret dX10_writersFor_46 trivial hP
    · refine e_aload_n 0 dX10_writersFor_17 rfl rfl ?_
      refine e_aload_n 1 dX10_writersFor_18 rfl rfl ?_
      refine e_aload_n 0 dX10_writersFor_19 rfl rfl ?_
      refine e_getr hV dX10_writersFor_20 rfl lc_T rfl ?_
      refine e_iload 4 dX10_writersFor_23 rfl ?_
      refine e_iload_n 2 dX10_writersFor_25 rfl rfl ?_
      obtain ⟨r3, s4, hg, hf⟩ := bP_some hf
      refine e_callV (as := [.ref (qS k1), .ref (qM 0), .int y4, .int y2]) (v := (some (.int r3))) (s' := s4) hV dX10_writersFor_26 (Or.inl rfl) rfl rfl rfl rfl (Nat.le_of_ble_eq_true rfl) lc_T rfl rfl (fun Q hQ => tX10_fits (d := d) hV hk1 (by decide) hg hQ) ?_
      refine e_if_eq 39 dX10_writersFor_29 (by decide) hf (fun hf => ?_) (fun hf => ?_)
      · refine e_pick [0, 1, 2, 3, 4] rfl ?_
        exact wX10_writersFor_b39 hV ih hP k1 hk1 y2 y3 y4 s4 hf
      · refine e_iload_n 3 dX10_writersFor_32 rfl rfl ?_
        refine e_iconst (w := (nI 1)) dX10_writersFor_33 (by decide) ?_
        refine e_iload 4 dX10_writersFor_34 rfl ?_
        refine e_ishl dX10_writersFor_36 ?_
        refine e_ior dX10_writersFor_37 ?_
        refine e_istore_n dX10_writersFor_38 rfl (by decide) hf (fun v6 hf => ?_)
        refine e_pick [1, 2, 3, 0, 4] rfl ?_
        exact wX10_writersFor_b39 hV ih hP k1 hk1 y2 v6 y4 s4 hf
set_option maxRecDepth 20000 in
theorem tX10_writersFor {ρ : mRo} {d : Nat} {P : mPo} {V : mS → List mE} (hV : mView LC V)  {k1 : Nat} (hk1 : k1 < 6) {x2 : Int32} {s : mS} {res : (Int32 × mS)} (hf : fX10_writersFor k1 x2 s = some res) (hP : P (some (.int res.1)) (V res.2)) : mC ρ (d + 7) 133 [.ref qT, .ref (qS k1), .int x2] (V s) P := by
  refine ⟨_, rfl, Nat.le_of_ble_eq_true rfl, by decide, ?_⟩
  show mG ρ (mC ρ (d + 6)) 10 5 cX10_writersFor (some .int) P 0 [(0, .ref qT), (1, .ref (qS k1)), (2, .int x2)] [] (V s)
  unfold fX10_writersFor at hf
  refine e_iconst (w := (nI 0)) dX10_writersFor_0 (by decide) ?_
  refine e_istore_n dX10_writersFor_1 rfl (by decide) hf (fun v1 hf => ?_)
  refine e_iconst (w := (nI 0)) dX10_writersFor_2 (by decide) ?_
  refine e_istore dX10_writersFor_3 (by decide) hf (fun v2 hf => ?_)
  refine e_pick [2, 3, 4, 1, 0] rfl ?_
  exact wX10_writersFor_b5 hV hP mFu k1 hk1 x2 v1 v2 s hf

theorem dX10_whose_0 : decode cX10_whose 0 = .ok (.aload_n 0, 1) := by decide +kernel
theorem dX10_whose_1 : decode cX10_whose 1 = .ok (.getfield 10, 3) := by decide +kernel
theorem dX10_whose_4 : decode cX10_whose 4 = .ok (.iload_n 2, 1) := by decide +kernel
theorem dX10_whose_5 : decode cX10_whose 5 = .ok (.invokevirtual 174, 3) := by decide +kernel
theorem dX10_whose_8 : decode cX10_whose 8 = .ok (.ifCond .ne 5, 3) := by decide +kernel
theorem dX10_whose_11 : decode cX10_whose 11 = .ok (.iconst (-1), 1) := by decide +kernel
theorem dX10_whose_12 : decode cX10_whose 12 = .ok (.ireturn, 1) := by decide +kernel
theorem dX10_whose_13 : decode cX10_whose 13 = .ok (.aload_n 0, 1) := by decide +kernel
theorem dX10_whose_14 : decode cX10_whose 14 = .ok (.iload_n 1, 1) := by decide +kernel
theorem dX10_whose_15 : decode cX10_whose 15 = .ok (.iconst 0, 1) := by decide +kernel
theorem dX10_whose_16 : decode cX10_whose 16 = .ok (.invokevirtual 177, 3) := by decide +kernel
theorem dX10_whose_19 : decode cX10_whose 19 = .ok (.istore_n 3, 1) := by decide +kernel
theorem dX10_whose_20 : decode cX10_whose 20 = .ok (.iload_n 3, 1) := by decide +kernel
theorem dX10_whose_21 : decode cX10_whose 21 = .ok (.ifCond .eq 7, 3) := by decide +kernel
theorem dX10_whose_24 : decode cX10_whose 24 = .ok (.iload_n 3, 1) := by decide +kernel
theorem dX10_whose_25 : decode cX10_whose 25 = .ok (.goto 14, 3) := by decide +kernel
theorem dX10_whose_28 : decode cX10_whose 28 = .ok (.aload_n 0, 1) := by decide +kernel
theorem dX10_whose_29 : decode cX10_whose 29 = .ok (.aload_n 0, 1) := by decide +kernel
theorem dX10_whose_30 : decode cX10_whose 30 = .ok (.getfield 42, 3) := by decide +kernel
theorem dX10_whose_33 : decode cX10_whose 33 = .ok (.iload_n 1, 1) := by decide +kernel
theorem dX10_whose_34 : decode cX10_whose 34 = .ok (.aaload, 1) := by decide +kernel
theorem dX10_whose_35 : decode cX10_whose 35 = .ok (.iload_n 2, 1) := by decide +kernel
theorem dX10_whose_36 : decode cX10_whose 36 = .ok (.invokevirtual 239, 3) := by decide +kernel
theorem dX10_whose_39 : decode cX10_whose 39 = .ok (.ireturn, 1) := by decide +kernel
def fX10_whose (x1 : Int32) (x2 : Int32) (s : mS) : Option (Int32 × mS) :=
  bO (fX6_has 0 x2 s) fun r1 =>
  if r1 = 0 then
    some ((-1), s)
  else
    bO (fX10_rowRefusal x1 (nI 0) s) fun r2 =>
    bnd r2 fun v3 =>
    if v3 = 0 then
      ldS 6 x1 fun j4 =>
      bP (fX10_writersFor j4 x2 s) fun r5 s6 =>
      some (r5, s6)
    else
      some (v3, s)

set_option maxRecDepth 20000 in
theorem tX10_whose {ρ : mRo} {d : Nat} {P : mPo} {V : mS → List mE} (hV : mView LC V)  {x1 : Int32} {x2 : Int32} {s : mS} {res : (Int32 × mS)} (hf : fX10_whose x1 x2 s = some res) (hP : P (some (.int res.1)) (V res.2)) : mC ρ (d + 8) 80 [.ref qT, .int x1, .int x2] (V s) P := by
  refine ⟨_, rfl, Nat.le_of_ble_eq_true rfl, by decide, ?_⟩
  show mG ρ (mC ρ (d + 7)) 10 4 cX10_whose (some .int) P 0 [(0, .ref qT), (1, .int x1), (2, .int x2)] [] (V s)
  unfold fX10_whose at hf
  refine e_aload_n 0 dX10_whose_0 rfl rfl ?_
  refine e_getr hV dX10_whose_1 rfl lc_T rfl ?_
  refine e_iload_n 2 dX10_whose_4 rfl rfl ?_
  obtain ⟨r1, hg, hf⟩ := bO_some hf
  refine e_callV (as := [.int x2]) (v := (some (.int r1))) (s' := s) hV dX10_whose_5 (Or.inl rfl) rfl rfl rfl rfl (Nat.le_of_ble_eq_true rfl) (lc_M (by decide)) rfl rfl (fun Q hQ => tX6_has (d := (d + 6)) hV (by decide) hg hQ) ?_
  refine e_if_ne 13 dX10_whose_8 (by decide) hf (fun hf => ?_) (fun hf => ?_)
  · refine e_aload_n 0 dX10_whose_13 rfl rfl ?_
    refine e_iload_n 1 dX10_whose_14 rfl rfl ?_
    refine e_iconst (w := (nI 0)) dX10_whose_15 (by decide) ?_
    obtain ⟨r2, hg, hf⟩ := bO_some hf
    refine e_callV (as := [.int x1, .int (nI 0)]) (v := (some (.int r2))) (s' := s) hV dX10_whose_16 (Or.inl rfl) rfl rfl rfl rfl (Nat.le_of_ble_eq_true rfl) lc_T rfl rfl (fun Q hQ => tX10_rowRefusal (d := (d + 5)) hV  hg hQ) ?_
    refine e_istore_n dX10_whose_19 rfl (by decide) hf (fun v3 hf => ?_)
    refine e_iload_n 0 dX10_whose_20 rfl rfl ?_
    refine e_if_eq 28 dX10_whose_21 (by decide) hf (fun hf => ?_) (fun hf => ?_)
    · refine e_aload_n 1 dX10_whose_28 rfl rfl ?_
      refine e_aload_n 1 dX10_whose_29 rfl rfl ?_
      refine e_getr hV dX10_whose_30 rfl lc_T rfl ?_
      refine e_iload_n 2 dX10_whose_33 rfl rfl ?_
      refine e_aald hV dX10_whose_34 lc_T_shelves rfl lc_T_shelves_at hf (fun j4 hj4 hf => ?_)
      refine e_iload_n 3 dX10_whose_35 rfl rfl ?_
      obtain ⟨r5, s6, hg, hf⟩ := bP_some hf
      refine e_callV (as := [.ref (qS j4), .int x2]) (v := (some (.int r5))) (s' := s6) hV dX10_whose_36 (Or.inl rfl) rfl rfl rfl rfl (Nat.le_of_ble_eq_true rfl) lc_T rfl rfl (fun Q hQ => tX10_writersFor (d := d) hV hj4 hg hQ) ?_
      obtain rfl := Option.some.inj hf
      exact e_iret dX10_whose_39 trivial hP
    · refine e_iload_n 0 dX10_whose_24 rfl rfl ?_
      refine e_goto 39 dX10_whose_25 (by decide) ?_
      obtain rfl := Option.some.inj hf
      exact e_iret dX10_whose_39 trivial hP
  · refine e_iconst (w := (-1)) dX10_whose_11 (by decide) ?_
    obtain rfl := Option.some.inj hf
    exact e_iret dX10_whose_12 trivial hP

theorem dX10_where_0 : decode cX10_where 0 = .ok (.aload_n 0, 1) := by decide +kernel
theorem dX10_where_1 : decode cX10_where 1 = .ok (.getfield 22, 3) := by decide +kernel
theorem dX10_where_4 : decode cX10_where 4 = .ok (.iload_n 2, 1) := by decide +kernel
theorem dX10_where_5 : decode cX10_where 5 = .ok (.invokevirtual 208, 3) := by decide +kernel
theorem dX10_where_8 : decode cX10_where 8 = .ok (.ifCond .ne 5, 3) := by decide +kernel
theorem dX10_where_11 : decode cX10_where 11 = .ok (.iconst (-1), 1) := by decide +kernel
theorem dX10_where_12 : decode cX10_where 12 = .ok (.ireturn, 1) := by decide +kernel
theorem dX10_where_13 : decode cX10_where 13 = .ok (.aload_n 0, 1) := by decide +kernel
theorem dX10_where_14 : decode cX10_where 14 = .ok (.iload_n 1, 1) := by decide +kernel
theorem dX10_where_15 : decode cX10_where 15 = .ok (.iconst 0, 1) := by decide +kernel
theorem dX10_where_16 : decode cX10_where 16 = .ok (.invokevirtual 177, 3) := by decide +kernel
theorem dX10_where_19 : decode cX10_where 19 = .ok (.istore_n 3, 1) := by decide +kernel
theorem dX10_where_20 : decode cX10_where 20 = .ok (.iload_n 3, 1) := by decide +kernel
theorem dX10_where_21 : decode cX10_where 21 = .ok (.ifCond .eq 5, 3) := by decide +kernel
theorem dX10_where_24 : decode cX10_where 24 = .ok (.iload_n 3, 1) := by decide +kernel
theorem dX10_where_25 : decode cX10_where 25 = .ok (.ireturn, 1) := by decide +kernel
theorem dX10_where_26 : decode cX10_where 26 = .ok (.iconst 0, 1) := by decide +kernel
theorem dX10_where_27 : decode cX10_where 27 = .ok (.istore 4, 2) := by decide +kernel
theorem dX10_where_29 : decode cX10_where 29 = .ok (.iconst 0, 1) := by decide +kernel
theorem dX10_where_30 : decode cX10_where 30 = .ok (.istore 5, 2) := by decide +kernel
theorem dX10_where_32 : decode cX10_where 32 = .ok (.iload 5, 2) := by decide +kernel
theorem dX10_where_34 : decode cX10_where 34 = .ok (.aload_n 0, 1) := by decide +kernel
theorem dX10_where_35 : decode cX10_where 35 = .ok (.getfield 10, 3) := by decide +kernel
theorem dX10_where_38 : decode cX10_where 38 = .ok (.getfield 216, 3) := by decide +kernel
theorem dX10_where_41 : decode cX10_where 41 = .ok (.if_icmp .ge 38, 3) := by decide +kernel
theorem dX10_where_44 : decode cX10_where 44 = .ok (.aload_n 0, 1) := by decide +kernel
theorem dX10_where_45 : decode cX10_where 45 = .ok (.aload_n 0, 1) := by decide +kernel
theorem dX10_where_46 : decode cX10_where 46 = .ok (.getfield 42, 3) := by decide +kernel
theorem dX10_where_49 : decode cX10_where 49 = .ok (.iload_n 1, 1) := by decide +kernel
theorem dX10_where_50 : decode cX10_where 50 = .ok (.aaload, 1) := by decide +kernel
theorem dX10_where_51 : decode cX10_where 51 = .ok (.aload_n 0, 1) := by decide +kernel
theorem dX10_where_52 : decode cX10_where 52 = .ok (.getfield 10, 3) := by decide +kernel
theorem dX10_where_55 : decode cX10_where 55 = .ok (.iload_n 2, 1) := by decide +kernel
theorem dX10_where_56 : decode cX10_where 56 = .ok (.iload 5, 2) := by decide +kernel
theorem dX10_where_58 : decode cX10_where 58 = .ok (.invokevirtual 242, 3) := by decide +kernel
theorem dX10_where_61 : decode cX10_where 61 = .ok (.ifCond .eq 12, 3) := by decide +kernel
theorem dX10_where_64 : decode cX10_where 64 = .ok (.iload 4, 2) := by decide +kernel
theorem dX10_where_66 : decode cX10_where 66 = .ok (.iconst 1, 1) := by decide +kernel
theorem dX10_where_67 : decode cX10_where 67 = .ok (.iload 5, 2) := by decide +kernel
theorem dX10_where_69 : decode cX10_where 69 = .ok (.ishl, 1) := by decide +kernel
theorem dX10_where_70 : decode cX10_where 70 = .ok (.ior, 1) := by decide +kernel
theorem dX10_where_71 : decode cX10_where 71 = .ok (.istore 4, 2) := by decide +kernel
theorem dX10_where_73 : decode cX10_where 73 = .ok (.iinc 5 1, 3) := by decide +kernel
theorem dX10_where_76 : decode cX10_where 76 = .ok (.goto (-44), 3) := by decide +kernel
theorem dX10_where_79 : decode cX10_where 79 = .ok (.iload 4, 2) := by decide +kernel
theorem dX10_where_81 : decode cX10_where 81 = .ok (.ireturn, 1) := by decide +kernel
def fX10_where_b73 (K32 : Int32 → Int32 → Int32 → Int32 → mS → Option (Int32 × mS)) (y1 : Int32) (y2 : Int32) (y4 : Int32) (y5 : Int32) (s : mS) : Option (Int32 × mS) :=
  bnd (y5 + (nI 1)) fun v9 =>
  K32 y1 y2 y4 v9 s

def fX10_where_b32 : Nat → Int32 → Int32 → Int32 → Int32 → mS → Option (Int32 × mS)
  | 0, _, _, _, _, _ => none
  | k + 1, y1, y2, y4, y5, s =>
    if (gI s (iM_size 0)) ≤ y5 then
      some (y4, s)
    else
      ldS 6 y1 fun j6 =>
      bP (fX10_fits j6 0 y2 y5 s) fun r7 s8 =>
      if r7 = 0 then
        fX10_where_b73 (fun u0 u1 u2 u3 u4 => fX10_where_b32 k u0 u1 u2 u3 u4) y1 y2 y4 y5 s8
      else
        bnd (y4 ||| ((nI 1) <<< (y5 &&& 31))) fun v10 =>
        fX10_where_b73 (fun u0 u1 u2 u3 u4 => fX10_where_b32 k u0 u1 u2 u3 u4) y1 y2 v10 y5 s8

def fX10_where (x1 : Int32) (x2 : Int32) (s : mS) : Option (Int32 × mS) :=
  bO (fX9_has 0 x2 s) fun r1 =>
  if r1 = 0 then
    some ((-1), s)
  else
    bO (fX10_rowRefusal x1 (nI 0) s) fun r2 =>
    bnd r2 fun v3 =>
    if v3 = 0 then
      bnd (nI 0) fun v4 =>
      bnd (nI 0) fun v5 =>
      fX10_where_b32 mFu x1 x2 v4 v5 s
    else
      some (v3, s)

set_option maxRecDepth 20000 in
theorem wX10_where_b73 {ρ : mRo} {d : Nat} {P : mPo} {V : mS → List mE} (hV : mView LC V)  {res : (Int32 × mS)} {K32 : Int32 → Int32 → Int32 → Int32 → mS → Option (Int32 × mS)} (hK32 : ∀ (y1 : Int32) (y2 : Int32) (y4 : Int32) (y5 : Int32) (s : mS), K32 y1 y2 y4 y5 s = some res → mG ρ (mC ρ (d + 6)) 10 6 cX10_where (some .int) P 32 [(0, .ref qT), (1, .int y1), (2, .int y2), (4, .int y4), (5, .int y5)] [] (V s)) (hP : P (some (.int res.1)) (V res.2)) (y1 : Int32) (y2 : Int32) (y4 : Int32) (y5 : Int32) (s : mS) (hf : fX10_where_b73 K32 y1 y2 y4 y5 s = some res) : mG ρ (mC ρ (d + 6)) 10 6 cX10_where (some .int) P 73 [(0, .ref qT), (1, .int y1), (2, .int y2), (4, .int y4), (5, .int y5)] [] (V s) := by
  unfold fX10_where_b73 at hf
  refine e_iinc 4 dX10_where_73 (by decide) rfl hf (fun v9 hf => ?_)
  refine e_goto 32 dX10_where_76 (by decide) ?_
  refine e_pick [1, 2, 3, 4, 0] rfl ?_
  exact hK32 y1 y2 y4 v9 s hf
set_option maxRecDepth 20000 in
theorem wX10_where_b32 {ρ : mRo} {d : Nat} {P : mPo} {V : mS → List mE} (hV : mView LC V)  {res : (Int32 × mS)} (hP : P (some (.int res.1)) (V res.2)) : ∀ (k : Nat) (y1 : Int32) (y2 : Int32) (y4 : Int32) (y5 : Int32) (s : mS), fX10_where_b32 k y1 y2 y4 y5 s = some res → mG ρ (mC ρ (d + 6)) 10 6 cX10_where (some .int) P 32 [(0, .ref qT), (1, .int y1), (2, .int y2), (4, .int y4), (5, .int y5)] [] (V s) := by
  intro k
  induction k with
  | zero => intro y1 y2 y4 y5 s hf; rw [fX10_where_b32] at hf; cases hf
  | succ k ih =>
    intro y1 y2 y4 y5 s hf
    rw [fX10_where_b32] at hf
    refine e_iload 4 dX10_where_32 rfl ?_
    refine e_aload_n 0 dX10_where_34 rfl rfl ?_
    refine e_getr hV dX10_where_35 rfl lc_T rfl ?_
    refine e_geti hV dX10_where_38 rfl (lc_M (by decide)) rfl ?_
    refine e_icmp_ge 79 dX10_where_41 (by decide) hf (fun hf => ?_) (fun hf => ?_)
    · refine e_iload 3 dX10_where_79 rfl ?_
      obtain rfl := Option.some.inj hf
      exact e_iret dX10_where_81 trivial hP
    · refine e_aload_n 0 dX10_where_44 rfl rfl ?_
      refine e_aload_n 0 dX10_where_45 rfl rfl ?_
      refine e_getr hV dX10_where_46 rfl lc_T rfl ?_
      refine e_iload_n 1 dX10_where_49 rfl rfl ?_
      refine e_aald hV dX10_where_50 lc_T_shelves rfl lc_T_shelves_at hf (fun j6 hj6 hf => ?_)
      refine e_aload_n 0 dX10_where_51 rfl rfl ?_
      refine e_getr hV dX10_where_52 rfl lc_T rfl ?_
      refine e_iload_n 2 dX10_where_55 rfl rfl ?_
      refine e_iload 4 dX10_where_56 rfl ?_
      obtain ⟨r7, s8, hg, hf⟩ := bP_some hf
      refine e_callV (as := [.ref (qS j6), .ref (qM 0), .int y2, .int y5]) (v := (some (.int r7))) (s' := s8) hV dX10_where_58 (Or.inl rfl) rfl rfl rfl rfl (Nat.le_of_ble_eq_true rfl) lc_T rfl rfl (fun Q hQ => tX10_fits (d := d) hV hj6 (by decide) hg hQ) ?_
      refine e_if_eq 73 dX10_where_61 (by decide) hf (fun hf => ?_) (fun hf => ?_)
      · refine e_pick [0, 1, 2, 3, 4] rfl ?_
        exact wX10_where_b73 hV ih hP y1 y2 y4 y5 s8 hf
      · refine e_iload 3 dX10_where_64 rfl ?_
        refine e_iconst (w := (nI 1)) dX10_where_66 (by decide) ?_
        refine e_iload 4 dX10_where_67 rfl ?_
        refine e_ishl dX10_where_69 ?_
        refine e_ior dX10_where_70 ?_
        refine e_istore dX10_where_71 (by decide) hf (fun v10 hf => ?_)
        refine e_pick [1, 2, 3, 0, 4] rfl ?_
        exact wX10_where_b73 hV ih hP y1 y2 v10 y5 s8 hf
set_option maxRecDepth 20000 in
theorem tX10_where {ρ : mRo} {d : Nat} {P : mPo} {V : mS → List mE} (hV : mView LC V)  {x1 : Int32} {x2 : Int32} {s : mS} {res : (Int32 × mS)} (hf : fX10_where x1 x2 s = some res) (hP : P (some (.int res.1)) (V res.2)) : mC ρ (d + 7) 81 [.ref qT, .int x1, .int x2] (V s) P := by
  refine ⟨_, rfl, Nat.le_of_ble_eq_true rfl, by decide, ?_⟩
  show mG ρ (mC ρ (d + 6)) 10 6 cX10_where (some .int) P 0 [(0, .ref qT), (1, .int x1), (2, .int x2)] [] (V s)
  unfold fX10_where at hf
  refine e_aload_n 0 dX10_where_0 rfl rfl ?_
  refine e_getr hV dX10_where_1 rfl lc_T rfl ?_
  refine e_iload_n 2 dX10_where_4 rfl rfl ?_
  obtain ⟨r1, hg, hf⟩ := bO_some hf
  refine e_callV (as := [.int x2]) (v := (some (.int r1))) (s' := s) hV dX10_where_5 (Or.inl rfl) rfl rfl rfl rfl (Nat.le_of_ble_eq_true rfl) (lc_W (by decide)) rfl rfl (fun Q hQ => tX9_has (d := (d + 5)) hV (by decide) hg hQ) ?_
  refine e_if_ne 13 dX10_where_8 (by decide) hf (fun hf => ?_) (fun hf => ?_)
  · refine e_aload_n 0 dX10_where_13 rfl rfl ?_
    refine e_iload_n 1 dX10_where_14 rfl rfl ?_
    refine e_iconst (w := (nI 0)) dX10_where_15 (by decide) ?_
    obtain ⟨r2, hg, hf⟩ := bO_some hf
    refine e_callV (as := [.int x1, .int (nI 0)]) (v := (some (.int r2))) (s' := s) hV dX10_where_16 (Or.inl rfl) rfl rfl rfl rfl (Nat.le_of_ble_eq_true rfl) lc_T rfl rfl (fun Q hQ => tX10_rowRefusal (d := (d + 4)) hV  hg hQ) ?_
    refine e_istore_n dX10_where_19 rfl (by decide) hf (fun v3 hf => ?_)
    refine e_iload_n 0 dX10_where_20 rfl rfl ?_
    refine e_if_eq 26 dX10_where_21 (by decide) hf (fun hf => ?_) (fun hf => ?_)
    · refine e_iconst (w := (nI 0)) dX10_where_26 (by decide) ?_
      refine e_istore dX10_where_27 (by decide) hf (fun v4 hf => ?_)
      refine e_iconst (w := (nI 0)) dX10_where_29 (by decide) ?_
      refine e_istore dX10_where_30 (by decide) hf (fun v5 hf => ?_)
      refine e_pick [3, 4, 5, 1, 0] rfl ?_
      exact wX10_where_b32 hV hP mFu x1 x2 v4 v5 s hf
    · refine e_iload_n 0 dX10_where_24 rfl rfl ?_
      obtain rfl := Option.some.inj hf
      exact e_iret dX10_where_25 trivial hP
  · refine e_iconst (w := (-1)) dX10_where_11 (by decide) ?_
    obtain rfl := Option.some.inj hf
    exact e_iret dX10_where_12 trivial hP

theorem dJ6_numberOfTrailingZeros_0f7a4_0 : decode cJ6_numberOfTrailingZeros_0f7a4 0 = .ok (.iload_n 0, 1) := by decide +kernel
theorem dJ6_numberOfTrailingZeros_0f7a4_1 : decode cJ6_numberOfTrailingZeros_0f7a4 1 = .ok (.iconst (-1), 1) := by decide +kernel
theorem dJ6_numberOfTrailingZeros_0f7a4_2 : decode cJ6_numberOfTrailingZeros_0f7a4 2 = .ok (.ixor, 1) := by decide +kernel
theorem dJ6_numberOfTrailingZeros_0f7a4_3 : decode cJ6_numberOfTrailingZeros_0f7a4 3 = .ok (.iload_n 0, 1) := by decide +kernel
theorem dJ6_numberOfTrailingZeros_0f7a4_4 : decode cJ6_numberOfTrailingZeros_0f7a4 4 = .ok (.iconst 1, 1) := by decide +kernel
theorem dJ6_numberOfTrailingZeros_0f7a4_5 : decode cJ6_numberOfTrailingZeros_0f7a4 5 = .ok (.isub, 1) := by decide +kernel
theorem dJ6_numberOfTrailingZeros_0f7a4_6 : decode cJ6_numberOfTrailingZeros_0f7a4 6 = .ok (.iand, 1) := by decide +kernel
theorem dJ6_numberOfTrailingZeros_0f7a4_7 : decode cJ6_numberOfTrailingZeros_0f7a4 7 = .ok (.istore_n 0, 1) := by decide +kernel
theorem dJ6_numberOfTrailingZeros_0f7a4_8 : decode cJ6_numberOfTrailingZeros_0f7a4 8 = .ok (.iload_n 0, 1) := by decide +kernel
theorem dJ6_numberOfTrailingZeros_0f7a4_9 : decode cJ6_numberOfTrailingZeros_0f7a4 9 = .ok (.ifCond .gt 8, 3) := by decide +kernel
theorem dJ6_numberOfTrailingZeros_0f7a4_12 : decode cJ6_numberOfTrailingZeros_0f7a4 12 = .ok (.iload_n 0, 1) := by decide +kernel
theorem dJ6_numberOfTrailingZeros_0f7a4_13 : decode cJ6_numberOfTrailingZeros_0f7a4 13 = .ok (.bipush 32, 2) := by decide +kernel
theorem dJ6_numberOfTrailingZeros_0f7a4_15 : decode cJ6_numberOfTrailingZeros_0f7a4 15 = .ok (.iand, 1) := by decide +kernel
theorem dJ6_numberOfTrailingZeros_0f7a4_16 : decode cJ6_numberOfTrailingZeros_0f7a4 16 = .ok (.ireturn, 1) := by decide +kernel
theorem dJ6_numberOfTrailingZeros_0f7a4_17 : decode cJ6_numberOfTrailingZeros_0f7a4 17 = .ok (.iconst 1, 1) := by decide +kernel
theorem dJ6_numberOfTrailingZeros_0f7a4_18 : decode cJ6_numberOfTrailingZeros_0f7a4 18 = .ok (.istore_n 1, 1) := by decide +kernel
theorem dJ6_numberOfTrailingZeros_0f7a4_19 : decode cJ6_numberOfTrailingZeros_0f7a4 19 = .ok (.iload_n 0, 1) := by decide +kernel
theorem dJ6_numberOfTrailingZeros_0f7a4_20 : decode cJ6_numberOfTrailingZeros_0f7a4 20 = .ok (.ldc_w 264, 3) := by decide +kernel
theorem dJ6_numberOfTrailingZeros_0f7a4_23 : decode cJ6_numberOfTrailingZeros_0f7a4 23 = .ok (.if_icmp .le 11, 3) := by decide +kernel
theorem dJ6_numberOfTrailingZeros_0f7a4_26 : decode cJ6_numberOfTrailingZeros_0f7a4 26 = .ok (.iinc 1 16, 3) := by decide +kernel
theorem dJ6_numberOfTrailingZeros_0f7a4_29 : decode cJ6_numberOfTrailingZeros_0f7a4 29 = .ok (.iload_n 0, 1) := by decide +kernel
theorem dJ6_numberOfTrailingZeros_0f7a4_30 : decode cJ6_numberOfTrailingZeros_0f7a4 30 = .ok (.bipush 16, 2) := by decide +kernel
theorem dJ6_numberOfTrailingZeros_0f7a4_32 : decode cJ6_numberOfTrailingZeros_0f7a4 32 = .ok (.iushr, 1) := by decide +kernel
theorem dJ6_numberOfTrailingZeros_0f7a4_33 : decode cJ6_numberOfTrailingZeros_0f7a4 33 = .ok (.istore_n 0, 1) := by decide +kernel
theorem dJ6_numberOfTrailingZeros_0f7a4_34 : decode cJ6_numberOfTrailingZeros_0f7a4 34 = .ok (.iload_n 0, 1) := by decide +kernel
theorem dJ6_numberOfTrailingZeros_0f7a4_35 : decode cJ6_numberOfTrailingZeros_0f7a4 35 = .ok (.sipush 256, 3) := by decide +kernel
theorem dJ6_numberOfTrailingZeros_0f7a4_38 : decode cJ6_numberOfTrailingZeros_0f7a4 38 = .ok (.if_icmp .le 11, 3) := by decide +kernel
theorem dJ6_numberOfTrailingZeros_0f7a4_41 : decode cJ6_numberOfTrailingZeros_0f7a4 41 = .ok (.iinc 1 8, 3) := by decide +kernel
theorem dJ6_numberOfTrailingZeros_0f7a4_44 : decode cJ6_numberOfTrailingZeros_0f7a4 44 = .ok (.iload_n 0, 1) := by decide +kernel
theorem dJ6_numberOfTrailingZeros_0f7a4_45 : decode cJ6_numberOfTrailingZeros_0f7a4 45 = .ok (.bipush 8, 2) := by decide +kernel
theorem dJ6_numberOfTrailingZeros_0f7a4_47 : decode cJ6_numberOfTrailingZeros_0f7a4 47 = .ok (.iushr, 1) := by decide +kernel
theorem dJ6_numberOfTrailingZeros_0f7a4_48 : decode cJ6_numberOfTrailingZeros_0f7a4 48 = .ok (.istore_n 0, 1) := by decide +kernel
theorem dJ6_numberOfTrailingZeros_0f7a4_49 : decode cJ6_numberOfTrailingZeros_0f7a4 49 = .ok (.iload_n 0, 1) := by decide +kernel
theorem dJ6_numberOfTrailingZeros_0f7a4_50 : decode cJ6_numberOfTrailingZeros_0f7a4 50 = .ok (.bipush 16, 2) := by decide +kernel
theorem dJ6_numberOfTrailingZeros_0f7a4_52 : decode cJ6_numberOfTrailingZeros_0f7a4 52 = .ok (.if_icmp .le 10, 3) := by decide +kernel
theorem dJ6_numberOfTrailingZeros_0f7a4_55 : decode cJ6_numberOfTrailingZeros_0f7a4 55 = .ok (.iinc 1 4, 3) := by decide +kernel
theorem dJ6_numberOfTrailingZeros_0f7a4_58 : decode cJ6_numberOfTrailingZeros_0f7a4 58 = .ok (.iload_n 0, 1) := by decide +kernel
theorem dJ6_numberOfTrailingZeros_0f7a4_59 : decode cJ6_numberOfTrailingZeros_0f7a4 59 = .ok (.iconst 4, 1) := by decide +kernel
theorem dJ6_numberOfTrailingZeros_0f7a4_60 : decode cJ6_numberOfTrailingZeros_0f7a4 60 = .ok (.iushr, 1) := by decide +kernel
theorem dJ6_numberOfTrailingZeros_0f7a4_61 : decode cJ6_numberOfTrailingZeros_0f7a4 61 = .ok (.istore_n 0, 1) := by decide +kernel
theorem dJ6_numberOfTrailingZeros_0f7a4_62 : decode cJ6_numberOfTrailingZeros_0f7a4 62 = .ok (.iload_n 0, 1) := by decide +kernel
theorem dJ6_numberOfTrailingZeros_0f7a4_63 : decode cJ6_numberOfTrailingZeros_0f7a4 63 = .ok (.iconst 4, 1) := by decide +kernel
theorem dJ6_numberOfTrailingZeros_0f7a4_64 : decode cJ6_numberOfTrailingZeros_0f7a4 64 = .ok (.if_icmp .le 10, 3) := by decide +kernel
theorem dJ6_numberOfTrailingZeros_0f7a4_67 : decode cJ6_numberOfTrailingZeros_0f7a4 67 = .ok (.iinc 1 2, 3) := by decide +kernel
theorem dJ6_numberOfTrailingZeros_0f7a4_70 : decode cJ6_numberOfTrailingZeros_0f7a4 70 = .ok (.iload_n 0, 1) := by decide +kernel
theorem dJ6_numberOfTrailingZeros_0f7a4_71 : decode cJ6_numberOfTrailingZeros_0f7a4 71 = .ok (.iconst 2, 1) := by decide +kernel
theorem dJ6_numberOfTrailingZeros_0f7a4_72 : decode cJ6_numberOfTrailingZeros_0f7a4 72 = .ok (.iushr, 1) := by decide +kernel
theorem dJ6_numberOfTrailingZeros_0f7a4_73 : decode cJ6_numberOfTrailingZeros_0f7a4 73 = .ok (.istore_n 0, 1) := by decide +kernel
theorem dJ6_numberOfTrailingZeros_0f7a4_74 : decode cJ6_numberOfTrailingZeros_0f7a4 74 = .ok (.iload_n 1, 1) := by decide +kernel
theorem dJ6_numberOfTrailingZeros_0f7a4_75 : decode cJ6_numberOfTrailingZeros_0f7a4 75 = .ok (.iload_n 0, 1) := by decide +kernel
theorem dJ6_numberOfTrailingZeros_0f7a4_76 : decode cJ6_numberOfTrailingZeros_0f7a4 76 = .ok (.iconst 1, 1) := by decide +kernel
theorem dJ6_numberOfTrailingZeros_0f7a4_77 : decode cJ6_numberOfTrailingZeros_0f7a4 77 = .ok (.iushr, 1) := by decide +kernel
theorem dJ6_numberOfTrailingZeros_0f7a4_78 : decode cJ6_numberOfTrailingZeros_0f7a4 78 = .ok (.iadd, 1) := by decide +kernel
theorem dJ6_numberOfTrailingZeros_0f7a4_79 : decode cJ6_numberOfTrailingZeros_0f7a4 79 = .ok (.ireturn, 1) := by decide +kernel
def fJ6_numberOfTrailingZeros_0f7a4_b74 (y0 : Int32) (y1 : Int32) (s : mS) : Option Int32 :=
  some (y1 + ((Int32.toUInt32 y0 >>> (Int32.toUInt32 (nI 1) &&& Int32.toUInt32 31)).toInt32))

def fJ6_numberOfTrailingZeros_0f7a4_b62 (y0 : Int32) (y1 : Int32) (s : mS) : Option Int32 :=
  if y0 ≤ (nI 4) then
    fJ6_numberOfTrailingZeros_0f7a4_b74 y0 y1 s
  else
    bnd (y1 + (nI 2)) fun v3 =>
    bnd ((Int32.toUInt32 y0 >>> (Int32.toUInt32 (nI 2) &&& Int32.toUInt32 31)).toInt32) fun v4 =>
    fJ6_numberOfTrailingZeros_0f7a4_b74 v4 v3 s

def fJ6_numberOfTrailingZeros_0f7a4_b49 (y0 : Int32) (y1 : Int32) (s : mS) : Option Int32 :=
  if y0 ≤ (nI 16) then
    fJ6_numberOfTrailingZeros_0f7a4_b62 y0 y1 s
  else
    bnd (y1 + (nI 4)) fun v5 =>
    bnd ((Int32.toUInt32 y0 >>> (Int32.toUInt32 (nI 4) &&& Int32.toUInt32 31)).toInt32) fun v6 =>
    fJ6_numberOfTrailingZeros_0f7a4_b62 v6 v5 s

def fJ6_numberOfTrailingZeros_0f7a4_b34 (y0 : Int32) (y1 : Int32) (s : mS) : Option Int32 :=
  if y0 ≤ (nI 256) then
    fJ6_numberOfTrailingZeros_0f7a4_b49 y0 y1 s
  else
    bnd (y1 + (nI 8)) fun v7 =>
    bnd ((Int32.toUInt32 y0 >>> (Int32.toUInt32 (nI 8) &&& Int32.toUInt32 31)).toInt32) fun v8 =>
    fJ6_numberOfTrailingZeros_0f7a4_b49 v8 v7 s

def fJ6_numberOfTrailingZeros_0f7a4 (x0 : Int32) (s : mS) : Option Int32 :=
  bnd ((x0 ^^^ (-1)) &&& (x0 - (nI 1))) fun v1 =>
  if 0 < v1 then
    bnd (nI 1) fun v2 =>
    if v1 ≤ (nI 65536) then
      fJ6_numberOfTrailingZeros_0f7a4_b34 v1 v2 s
    else
      bnd (v2 + (nI 16)) fun v9 =>
      bnd ((Int32.toUInt32 v1 >>> (Int32.toUInt32 (nI 16) &&& Int32.toUInt32 31)).toInt32) fun v10 =>
      fJ6_numberOfTrailingZeros_0f7a4_b34 v10 v9 s
  else
    some (v1 &&& (nI 32))

set_option maxRecDepth 20000 in
theorem wJ6_numberOfTrailingZeros_0f7a4_b74 {ρ : mRo} {d : Nat} {P : mPo} {V : mS → List mE} {L : Nat → Option mLE} (hV : mView L V)  {res : Int32} {s : mS} (hP : P (some (.int res)) (V s)) (y0 : Int32) (y1 : Int32) (hf : fJ6_numberOfTrailingZeros_0f7a4_b74 y0 y1 s = some res) : mG ρ (mC ρ d) 13 2 cJ6_numberOfTrailingZeros_0f7a4 (some .int) P 74 [(0, .int y0), (1, .int y1)] [] (V s) := by
  unfold fJ6_numberOfTrailingZeros_0f7a4_b74 at hf
  refine e_iload_n 1 dJ6_numberOfTrailingZeros_0f7a4_74 rfl rfl ?_
  refine e_iload_n 0 dJ6_numberOfTrailingZeros_0f7a4_75 rfl rfl ?_
  refine e_iconst (w := (nI 1)) dJ6_numberOfTrailingZeros_0f7a4_76 (by decide) ?_
  refine e_iushr dJ6_numberOfTrailingZeros_0f7a4_77 ?_
  refine e_iadd dJ6_numberOfTrailingZeros_0f7a4_78 ?_
  obtain rfl := Option.some.inj hf
  exact e_iret dJ6_numberOfTrailingZeros_0f7a4_79 trivial hP
set_option maxRecDepth 20000 in
theorem wJ6_numberOfTrailingZeros_0f7a4_b62 {ρ : mRo} {d : Nat} {P : mPo} {V : mS → List mE} {L : Nat → Option mLE} (hV : mView L V)  {res : Int32} {s : mS} (hP : P (some (.int res)) (V s)) (y0 : Int32) (y1 : Int32) (hf : fJ6_numberOfTrailingZeros_0f7a4_b62 y0 y1 s = some res) : mG ρ (mC ρ d) 13 2 cJ6_numberOfTrailingZeros_0f7a4 (some .int) P 62 [(0, .int y0), (1, .int y1)] [] (V s) := by
  unfold fJ6_numberOfTrailingZeros_0f7a4_b62 at hf
  refine e_iload_n 0 dJ6_numberOfTrailingZeros_0f7a4_62 rfl rfl ?_
  refine e_iconst (w := (nI 4)) dJ6_numberOfTrailingZeros_0f7a4_63 (by decide) ?_
  refine e_icmp_le 74 dJ6_numberOfTrailingZeros_0f7a4_64 (by decide) hf (fun hf => ?_) (fun hf => ?_)
  · refine e_pick [0, 1] rfl ?_
    exact wJ6_numberOfTrailingZeros_0f7a4_b74 hV hP y0 y1 hf
  · refine e_iinc 1 dJ6_numberOfTrailingZeros_0f7a4_67 (by decide) rfl hf (fun v3 hf => ?_)
    refine e_iload_n 1 dJ6_numberOfTrailingZeros_0f7a4_70 rfl rfl ?_
    refine e_iconst (w := (nI 2)) dJ6_numberOfTrailingZeros_0f7a4_71 (by decide) ?_
    refine e_iushr dJ6_numberOfTrailingZeros_0f7a4_72 ?_
    refine e_istore_n dJ6_numberOfTrailingZeros_0f7a4_73 rfl (by decide) hf (fun v4 hf => ?_)
    refine e_pick [0, 1] rfl ?_
    exact wJ6_numberOfTrailingZeros_0f7a4_b74 hV hP v4 v3 hf
set_option maxRecDepth 20000 in
theorem wJ6_numberOfTrailingZeros_0f7a4_b49 {ρ : mRo} {d : Nat} {P : mPo} {V : mS → List mE} {L : Nat → Option mLE} (hV : mView L V)  {res : Int32} {s : mS} (hP : P (some (.int res)) (V s)) (y0 : Int32) (y1 : Int32) (hf : fJ6_numberOfTrailingZeros_0f7a4_b49 y0 y1 s = some res) : mG ρ (mC ρ d) 13 2 cJ6_numberOfTrailingZeros_0f7a4 (some .int) P 49 [(0, .int y0), (1, .int y1)] [] (V s) := by
  unfold fJ6_numberOfTrailingZeros_0f7a4_b49 at hf
  refine e_iload_n 0 dJ6_numberOfTrailingZeros_0f7a4_49 rfl rfl ?_
  refine e_bipush (w := (nI 16)) dJ6_numberOfTrailingZeros_0f7a4_50 (by decide) ?_
  refine e_icmp_le 62 dJ6_numberOfTrailingZeros_0f7a4_52 (by decide) hf (fun hf => ?_) (fun hf => ?_)
  · refine e_pick [0, 1] rfl ?_
    exact wJ6_numberOfTrailingZeros_0f7a4_b62 hV hP y0 y1 hf
  · refine e_iinc 1 dJ6_numberOfTrailingZeros_0f7a4_55 (by decide) rfl hf (fun v5 hf => ?_)
    refine e_iload_n 1 dJ6_numberOfTrailingZeros_0f7a4_58 rfl rfl ?_
    refine e_iconst (w := (nI 4)) dJ6_numberOfTrailingZeros_0f7a4_59 (by decide) ?_
    refine e_iushr dJ6_numberOfTrailingZeros_0f7a4_60 ?_
    refine e_istore_n dJ6_numberOfTrailingZeros_0f7a4_61 rfl (by decide) hf (fun v6 hf => ?_)
    refine e_pick [0, 1] rfl ?_
    exact wJ6_numberOfTrailingZeros_0f7a4_b62 hV hP v6 v5 hf
set_option maxRecDepth 20000 in
theorem wJ6_numberOfTrailingZeros_0f7a4_b34 {ρ : mRo} {d : Nat} {P : mPo} {V : mS → List mE} {L : Nat → Option mLE} (hV : mView L V)  {res : Int32} {s : mS} (hP : P (some (.int res)) (V s)) (y0 : Int32) (y1 : Int32) (hf : fJ6_numberOfTrailingZeros_0f7a4_b34 y0 y1 s = some res) : mG ρ (mC ρ d) 13 2 cJ6_numberOfTrailingZeros_0f7a4 (some .int) P 34 [(0, .int y0), (1, .int y1)] [] (V s) := by
  unfold fJ6_numberOfTrailingZeros_0f7a4_b34 at hf
  refine e_iload_n 0 dJ6_numberOfTrailingZeros_0f7a4_34 rfl rfl ?_
  refine e_sipush (w := (nI 256)) dJ6_numberOfTrailingZeros_0f7a4_35 (by decide) ?_
  refine e_icmp_le 49 dJ6_numberOfTrailingZeros_0f7a4_38 (by decide) hf (fun hf => ?_) (fun hf => ?_)
  · refine e_pick [0, 1] rfl ?_
    exact wJ6_numberOfTrailingZeros_0f7a4_b49 hV hP y0 y1 hf
  · refine e_iinc 1 dJ6_numberOfTrailingZeros_0f7a4_41 (by decide) rfl hf (fun v7 hf => ?_)
    refine e_iload_n 1 dJ6_numberOfTrailingZeros_0f7a4_44 rfl rfl ?_
    refine e_bipush (w := (nI 8)) dJ6_numberOfTrailingZeros_0f7a4_45 (by decide) ?_
    refine e_iushr dJ6_numberOfTrailingZeros_0f7a4_47 ?_
    refine e_istore_n dJ6_numberOfTrailingZeros_0f7a4_48 rfl (by decide) hf (fun v8 hf => ?_)
    refine e_pick [0, 1] rfl ?_
    exact wJ6_numberOfTrailingZeros_0f7a4_b49 hV hP v8 v7 hf
set_option maxRecDepth 20000 in
theorem tJ6_numberOfTrailingZeros_0f7a4 {ρ : mRo} {d : Nat} {P : mPo} {V : mS → List mE} {L : Nat → Option mLE} (hV : mView L V)  {x0 : Int32} {s : mS} {res : Int32} (hf : fJ6_numberOfTrailingZeros_0f7a4 x0 s = some res) (hP : P (some (.int res)) (V s)) : mC ρ (d + 1) 232 [.int x0] (V s) P := by
  refine ⟨_, rfl, Nat.le_of_ble_eq_true rfl, by decide, ?_⟩
  show mG ρ (mC ρ d) 13 2 cJ6_numberOfTrailingZeros_0f7a4 (some .int) P 0 [(0, .int x0)] [] (V s)
  unfold fJ6_numberOfTrailingZeros_0f7a4 at hf
  refine e_iload_n 0 dJ6_numberOfTrailingZeros_0f7a4_0 rfl rfl ?_
  refine e_iconst (w := (-1)) dJ6_numberOfTrailingZeros_0f7a4_1 (by decide) ?_
  refine e_ixor dJ6_numberOfTrailingZeros_0f7a4_2 ?_
  refine e_iload_n 0 dJ6_numberOfTrailingZeros_0f7a4_3 rfl rfl ?_
  refine e_iconst (w := (nI 1)) dJ6_numberOfTrailingZeros_0f7a4_4 (by decide) ?_
  refine e_isub dJ6_numberOfTrailingZeros_0f7a4_5 ?_
  refine e_iand dJ6_numberOfTrailingZeros_0f7a4_6 ?_
  refine e_istore_n dJ6_numberOfTrailingZeros_0f7a4_7 rfl (by decide) hf (fun v1 hf => ?_)
  refine e_iload_n 0 dJ6_numberOfTrailingZeros_0f7a4_8 rfl rfl ?_
  refine e_if_gt 17 dJ6_numberOfTrailingZeros_0f7a4_9 (by decide) hf (fun hf => ?_) (fun hf => ?_)
  · refine e_iconst (w := (nI 1)) dJ6_numberOfTrailingZeros_0f7a4_17 (by decide) ?_
    refine e_istore_n dJ6_numberOfTrailingZeros_0f7a4_18 rfl (by decide) hf (fun v2 hf => ?_)
    refine e_iload_n 1 dJ6_numberOfTrailingZeros_0f7a4_19 rfl rfl ?_
    refine e_ldc_w (w := (nI 65536)) dJ6_numberOfTrailingZeros_0f7a4_20 rfl ?_
    refine e_icmp_le 34 dJ6_numberOfTrailingZeros_0f7a4_23 (by decide) hf (fun hf => ?_) (fun hf => ?_)
    · refine e_pick [1, 0] rfl ?_
      exact wJ6_numberOfTrailingZeros_0f7a4_b34 hV hP v1 v2 hf
    · refine e_iinc 0 dJ6_numberOfTrailingZeros_0f7a4_26 (by decide) rfl hf (fun v9 hf => ?_)
      refine e_iload_n 1 dJ6_numberOfTrailingZeros_0f7a4_29 rfl rfl ?_
      refine e_bipush (w := (nI 16)) dJ6_numberOfTrailingZeros_0f7a4_30 (by decide) ?_
      refine e_iushr dJ6_numberOfTrailingZeros_0f7a4_32 ?_
      refine e_istore_n dJ6_numberOfTrailingZeros_0f7a4_33 rfl (by decide) hf (fun v10 hf => ?_)
      refine e_pick [0, 1] rfl ?_
      exact wJ6_numberOfTrailingZeros_0f7a4_b34 hV hP v10 v9 hf
  · refine e_iload_n 0 dJ6_numberOfTrailingZeros_0f7a4_12 rfl rfl ?_
    refine e_bipush (w := (nI 32)) dJ6_numberOfTrailingZeros_0f7a4_13 (by decide) ?_
    refine e_iand dJ6_numberOfTrailingZeros_0f7a4_15 ?_
    obtain rfl := Option.some.inj hf
    exact e_iret dJ6_numberOfTrailingZeros_0f7a4_16 trivial hP

theorem dX10_pairs_0 : decode cX10_pairs 0 = .ok (.iload_n 2, 1) := by decide +kernel
theorem dX10_pairs_1 : decode cX10_pairs 1 = .ok (.ifCond .lt 8, 3) := by decide +kernel
theorem dX10_pairs_4 : decode cX10_pairs 4 = .ok (.iload_n 2, 1) := by decide +kernel
theorem dX10_pairs_5 : decode cX10_pairs 5 = .ok (.iconst 1, 1) := by decide +kernel
theorem dX10_pairs_6 : decode cX10_pairs 6 = .ok (.if_icmp .le 5, 3) := by decide +kernel
theorem dX10_pairs_9 : decode cX10_pairs 9 = .ok (.iconst (-1), 1) := by decide +kernel
theorem dX10_pairs_10 : decode cX10_pairs 10 = .ok (.ireturn, 1) := by decide +kernel
theorem dX10_pairs_11 : decode cX10_pairs 11 = .ok (.aload_n 0, 1) := by decide +kernel
theorem dX10_pairs_12 : decode cX10_pairs 12 = .ok (.iload_n 1, 1) := by decide +kernel
theorem dX10_pairs_13 : decode cX10_pairs 13 = .ok (.iconst 0, 1) := by decide +kernel
theorem dX10_pairs_14 : decode cX10_pairs 14 = .ok (.invokevirtual 177, 3) := by decide +kernel
theorem dX10_pairs_17 : decode cX10_pairs 17 = .ok (.istore_n 3, 1) := by decide +kernel
theorem dX10_pairs_18 : decode cX10_pairs 18 = .ok (.iload_n 3, 1) := by decide +kernel
theorem dX10_pairs_19 : decode cX10_pairs 19 = .ok (.ifCond .eq 5, 3) := by decide +kernel
theorem dX10_pairs_22 : decode cX10_pairs 22 = .ok (.iload_n 3, 1) := by decide +kernel
theorem dX10_pairs_23 : decode cX10_pairs 23 = .ok (.ireturn, 1) := by decide +kernel
theorem dX10_pairs_24 : decode cX10_pairs 24 = .ok (.iconst 0, 1) := by decide +kernel
theorem dX10_pairs_25 : decode cX10_pairs 25 = .ok (.istore 4, 2) := by decide +kernel
theorem dX10_pairs_27 : decode cX10_pairs 27 = .ok (.iconst 0, 1) := by decide +kernel
theorem dX10_pairs_28 : decode cX10_pairs 28 = .ok (.istore 5, 2) := by decide +kernel
theorem dX10_pairs_30 : decode cX10_pairs 30 = .ok (.iconst 0, 1) := by decide +kernel
theorem dX10_pairs_31 : decode cX10_pairs 31 = .ok (.istore 6, 2) := by decide +kernel
theorem dX10_pairs_33 : decode cX10_pairs 33 = .ok (.iload 6, 2) := by decide +kernel
theorem dX10_pairs_35 : decode cX10_pairs 35 = .ok (.aload_n 0, 1) := by decide +kernel
theorem dX10_pairs_36 : decode cX10_pairs 36 = .ok (.getfield 10, 3) := by decide +kernel
theorem dX10_pairs_39 : decode cX10_pairs 39 = .ok (.getfield 216, 3) := by decide +kernel
theorem dX10_pairs_42 : decode cX10_pairs 42 = .ok (.if_icmp .ge 40, 3) := by decide +kernel
theorem dX10_pairs_45 : decode cX10_pairs 45 = .ok (.aload_n 0, 1) := by decide +kernel
theorem dX10_pairs_46 : decode cX10_pairs 46 = .ok (.aload_n 0, 1) := by decide +kernel
theorem dX10_pairs_47 : decode cX10_pairs 47 = .ok (.getfield 42, 3) := by decide +kernel
theorem dX10_pairs_50 : decode cX10_pairs 50 = .ok (.iload_n 1, 1) := by decide +kernel
theorem dX10_pairs_51 : decode cX10_pairs 51 = .ok (.aaload, 1) := by decide +kernel
theorem dX10_pairs_52 : decode cX10_pairs 52 = .ok (.iload 6, 2) := by decide +kernel
theorem dX10_pairs_54 : decode cX10_pairs 54 = .ok (.invokevirtual 239, 3) := by decide +kernel
theorem dX10_pairs_57 : decode cX10_pairs 57 = .ok (.istore 7, 2) := by decide +kernel
theorem dX10_pairs_59 : decode cX10_pairs 59 = .ok (.iload 4, 2) := by decide +kernel
theorem dX10_pairs_61 : decode cX10_pairs 61 = .ok (.iload 7, 2) := by decide +kernel
theorem dX10_pairs_63 : decode cX10_pairs 63 = .ok (.invokestatic 246, 3) := by decide +kernel
theorem dX10_pairs_66 : decode cX10_pairs 66 = .ok (.iadd, 1) := by decide +kernel
theorem dX10_pairs_67 : decode cX10_pairs 67 = .ok (.istore 4, 2) := by decide +kernel
theorem dX10_pairs_69 : decode cX10_pairs 69 = .ok (.iload 5, 2) := by decide +kernel
theorem dX10_pairs_71 : decode cX10_pairs 71 = .ok (.iload 7, 2) := by decide +kernel
theorem dX10_pairs_73 : decode cX10_pairs 73 = .ok (.ior, 1) := by decide +kernel
theorem dX10_pairs_74 : decode cX10_pairs 74 = .ok (.istore 5, 2) := by decide +kernel
theorem dX10_pairs_76 : decode cX10_pairs 76 = .ok (.iinc 6 1, 3) := by decide +kernel
theorem dX10_pairs_79 : decode cX10_pairs 79 = .ok (.goto (-46), 3) := by decide +kernel
theorem dX10_pairs_82 : decode cX10_pairs 82 = .ok (.iload_n 2, 1) := by decide +kernel
theorem dX10_pairs_83 : decode cX10_pairs 83 = .ok (.ifCond .ne 6, 3) := by decide +kernel
theorem dX10_pairs_86 : decode cX10_pairs 86 = .ok (.iload 4, 2) := by decide +kernel
theorem dX10_pairs_88 : decode cX10_pairs 88 = .ok (.ireturn, 1) := by decide +kernel
theorem dX10_pairs_89 : decode cX10_pairs 89 = .ok (.iload 5, 2) := by decide +kernel
theorem dX10_pairs_91 : decode cX10_pairs 91 = .ok (.invokestatic 246, 3) := by decide +kernel
theorem dX10_pairs_94 : decode cX10_pairs 94 = .ok (.iconst 1, 1) := by decide +kernel
theorem dX10_pairs_95 : decode cX10_pairs 95 = .ok (.if_icmp .ne 11, 3) := by decide +kernel
theorem dX10_pairs_98 : decode cX10_pairs 98 = .ok (.iload 5, 2) := by decide +kernel
theorem dX10_pairs_100 : decode cX10_pairs 100 = .ok (.invokestatic 251, 3) := by decide +kernel
theorem dX10_pairs_103 : decode cX10_pairs 103 = .ok (.goto 5, 3) := by decide +kernel
theorem dX10_pairs_106 : decode cX10_pairs 106 = .ok (.bipush (-2), 2) := by decide +kernel
theorem dX10_pairs_108 : decode cX10_pairs 108 = .ok (.ireturn, 1) := by decide +kernel
def fX10_pairs_b33 : Nat → Int32 → Int32 → Int32 → Int32 → Int32 → mS → Option (Int32 × mS)
  | 0, _, _, _, _, _, _ => none
  | k + 1, y1, y2, y4, y5, y6, s =>
    if (gI s (iM_size 0)) ≤ y6 then
      if y2 = 0 then
        some (y4, s)
      else
        bO (fJ6_bitCount_0f7a4 y5 s) fun r6 =>
        if r6 = (nI 1) then
          bO (fJ6_numberOfTrailingZeros_0f7a4 y5 s) fun r7 =>
          some (r7, s)
        else
          some ((-2), s)
    else
      ldS 6 y1 fun j8 =>
      bP (fX10_writersFor j8 y6 s) fun r9 s10 =>
      bnd r9 fun v11 =>
      bO (fJ6_bitCount_0f7a4 v11 s10) fun r12 =>
      bnd (y4 + r12) fun v13 =>
      bnd (y5 ||| v11) fun v14 =>
      bnd (y6 + (nI 1)) fun v15 =>
      fX10_pairs_b33 k y1 y2 v13 v14 v15 s10

def fX10_pairs (x1 : Int32) (x2 : Int32) (s : mS) : Option (Int32 × mS) :=
  if x2 < 0 then
    some ((-1), s)
  else
    if x2 ≤ (nI 1) then
      bO (fX10_rowRefusal x1 (nI 0) s) fun r1 =>
      bnd r1 fun v2 =>
      if v2 = 0 then
        bnd (nI 0) fun v3 =>
        bnd (nI 0) fun v4 =>
        bnd (nI 0) fun v5 =>
        fX10_pairs_b33 mFu x1 x2 v3 v4 v5 s
      else
        some (v2, s)
    else
      some ((-1), s)

set_option maxRecDepth 20000 in
theorem wX10_pairs_b33 {ρ : mRo} {d : Nat} {P : mPo} {V : mS → List mE} (hV : mView LC V)  {res : (Int32 × mS)} (hP : P (some (.int res.1)) (V res.2)) : ∀ (k : Nat) (y1 : Int32) (y2 : Int32) (y4 : Int32) (y5 : Int32) (y6 : Int32) (s : mS), fX10_pairs_b33 k y1 y2 y4 y5 y6 s = some res → mG ρ (mC ρ (d + 7)) 10 8 cX10_pairs (some .int) P 33 [(0, .ref qT), (1, .int y1), (2, .int y2), (4, .int y4), (5, .int y5), (6, .int y6)] [] (V s) := by
  intro k
  induction k with
  | zero => intro y1 y2 y4 y5 y6 s hf; rw [fX10_pairs_b33] at hf; cases hf
  | succ k ih =>
    intro y1 y2 y4 y5 y6 s hf
    rw [fX10_pairs_b33] at hf
    refine e_iload 5 dX10_pairs_33 rfl ?_
    refine e_aload_n 0 dX10_pairs_35 rfl rfl ?_
    refine e_getr hV dX10_pairs_36 rfl lc_T rfl ?_
    refine e_geti hV dX10_pairs_39 rfl (lc_M (by decide)) rfl ?_
    refine e_icmp_ge 82 dX10_pairs_42 (by decide) hf (fun hf => ?_) (fun hf => ?_)
    · refine e_iload_n 2 dX10_pairs_82 rfl rfl ?_
      refine e_if_ne 89 dX10_pairs_83 (by decide) hf (fun hf => ?_) (fun hf => ?_)
      · refine e_iload 4 dX10_pairs_89 rfl ?_
        obtain ⟨r6, hg, hf⟩ := bO_some hf
        refine e_callS (as := [.int y5]) (v := (some (.int r6))) (s' := s) dX10_pairs_91 rfl rfl rfl rfl rfl (Nat.le_of_ble_eq_true rfl) (fun Q hQ => tJ6_bitCount_0f7a4 (d := (d + 6)) hV  hg hQ) ?_
        refine e_iconst (w := (nI 1)) dX10_pairs_94 (by decide) ?_
        refine e_icmp_ne 106 dX10_pairs_95 (by decide) hf (fun hf => ?_) (fun hf => ?_)
        · refine e_bipush (w := (-2)) dX10_pairs_106 (by decide) ?_
          obtain rfl := Option.some.inj hf
          exact e_iret dX10_pairs_108 trivial hP
        · refine e_iload 4 dX10_pairs_98 rfl ?_
          obtain ⟨r7, hg, hf⟩ := bO_some hf
          refine e_callS (as := [.int y5]) (v := (some (.int r7))) (s' := s) dX10_pairs_100 rfl rfl rfl rfl rfl (Nat.le_of_ble_eq_true rfl) (fun Q hQ => tJ6_numberOfTrailingZeros_0f7a4 (d := (d + 6)) hV  hg hQ) ?_
          refine e_goto 108 dX10_pairs_103 (by decide) ?_
          obtain rfl := Option.some.inj hf
          exact e_iret dX10_pairs_108 trivial hP
      · refine e_iload 3 dX10_pairs_86 rfl ?_
        obtain rfl := Option.some.inj hf
        exact e_iret dX10_pairs_88 trivial hP
    · refine e_aload_n 0 dX10_pairs_45 rfl rfl ?_
      refine e_aload_n 0 dX10_pairs_46 rfl rfl ?_
      refine e_getr hV dX10_pairs_47 rfl lc_T rfl ?_
      refine e_iload_n 1 dX10_pairs_50 rfl rfl ?_
      refine e_aald hV dX10_pairs_51 lc_T_shelves rfl lc_T_shelves_at hf (fun j8 hj8 hf => ?_)
      refine e_iload 5 dX10_pairs_52 rfl ?_
      obtain ⟨r9, s10, hg, hf⟩ := bP_some hf
      refine e_callV (as := [.ref (qS j8), .int y6]) (v := (some (.int r9))) (s' := s10) hV dX10_pairs_54 (Or.inl rfl) rfl rfl rfl rfl (Nat.le_of_ble_eq_true rfl) lc_T rfl rfl (fun Q hQ => tX10_writersFor (d := d) hV hj8 hg hQ) ?_
      refine e_istore dX10_pairs_57 (by decide) hf (fun v11 hf => ?_)
      refine e_iload 4 dX10_pairs_59 rfl ?_
      refine e_iload 0 dX10_pairs_61 rfl ?_
      obtain ⟨r12, hg, hf⟩ := bO_some hf
      refine e_callS (as := [.int v11]) (v := (some (.int r12))) (s' := s10) dX10_pairs_63 rfl rfl rfl rfl rfl (Nat.le_of_ble_eq_true rfl) (fun Q hQ => tJ6_bitCount_0f7a4 (d := (d + 6)) hV  hg hQ) ?_
      refine e_iadd dX10_pairs_66 ?_
      refine e_istore dX10_pairs_67 (by decide) hf (fun v13 hf => ?_)
      refine e_iload 5 dX10_pairs_69 rfl ?_
      refine e_iload 1 dX10_pairs_71 rfl ?_
      refine e_ior dX10_pairs_73 ?_
      refine e_istore dX10_pairs_74 (by decide) hf (fun v14 hf => ?_)
      refine e_iinc 6 dX10_pairs_76 (by decide) rfl hf (fun v15 hf => ?_)
      refine e_goto 33 dX10_pairs_79 (by decide) ?_
      refine e_pick [4, 5, 6, 2, 1, 0] rfl ?_
      exact ih y1 y2 v13 v14 v15 s10 hf
set_option maxRecDepth 20000 in
theorem tX10_pairs {ρ : mRo} {d : Nat} {P : mPo} {V : mS → List mE} (hV : mView LC V)  {x1 : Int32} {x2 : Int32} {s : mS} {res : (Int32 × mS)} (hf : fX10_pairs x1 x2 s = some res) (hP : P (some (.int res.1)) (V res.2)) : mC ρ (d + 8) 82 [.ref qT, .int x1, .int x2] (V s) P := by
  refine ⟨_, rfl, Nat.le_of_ble_eq_true rfl, by decide, ?_⟩
  show mG ρ (mC ρ (d + 7)) 10 8 cX10_pairs (some .int) P 0 [(0, .ref qT), (1, .int x1), (2, .int x2)] [] (V s)
  unfold fX10_pairs at hf
  refine e_iload_n 2 dX10_pairs_0 rfl rfl ?_
  refine e_if_lt 9 dX10_pairs_1 (by decide) hf (fun hf => ?_) (fun hf => ?_)
  · refine e_iconst (w := (-1)) dX10_pairs_9 (by decide) ?_
    obtain rfl := Option.some.inj hf
    exact e_iret dX10_pairs_10 trivial hP
  · refine e_iload_n 2 dX10_pairs_4 rfl rfl ?_
    refine e_iconst (w := (nI 1)) dX10_pairs_5 (by decide) ?_
    refine e_icmp_le 11 dX10_pairs_6 (by decide) hf (fun hf => ?_) (fun hf => ?_)
    · refine e_aload_n 0 dX10_pairs_11 rfl rfl ?_
      refine e_iload_n 1 dX10_pairs_12 rfl rfl ?_
      refine e_iconst (w := (nI 0)) dX10_pairs_13 (by decide) ?_
      obtain ⟨r1, hg, hf⟩ := bO_some hf
      refine e_callV (as := [.int x1, .int (nI 0)]) (v := (some (.int r1))) (s' := s) hV dX10_pairs_14 (Or.inl rfl) rfl rfl rfl rfl (Nat.le_of_ble_eq_true rfl) lc_T rfl rfl (fun Q hQ => tX10_rowRefusal (d := (d + 5)) hV  hg hQ) ?_
      refine e_istore_n dX10_pairs_17 rfl (by decide) hf (fun v2 hf => ?_)
      refine e_iload_n 0 dX10_pairs_18 rfl rfl ?_
      refine e_if_eq 24 dX10_pairs_19 (by decide) hf (fun hf => ?_) (fun hf => ?_)
      · refine e_iconst (w := (nI 0)) dX10_pairs_24 (by decide) ?_
        refine e_istore dX10_pairs_25 (by decide) hf (fun v3 hf => ?_)
        refine e_iconst (w := (nI 0)) dX10_pairs_27 (by decide) ?_
        refine e_istore dX10_pairs_28 (by decide) hf (fun v4 hf => ?_)
        refine e_iconst (w := (nI 0)) dX10_pairs_30 (by decide) ?_
        refine e_istore dX10_pairs_31 (by decide) hf (fun v5 hf => ?_)
        refine e_pick [4, 5, 6, 2, 1, 0] rfl ?_
        exact wX10_pairs_b33 hV hP mFu x1 x2 v3 v4 v5 s hf
      · refine e_iload_n 0 dX10_pairs_22 rfl rfl ?_
        obtain rfl := Option.some.inj hf
        exact e_iret dX10_pairs_23 trivial hP
    · refine e_iconst (w := (-1)) dX10_pairs_9 (by decide) ?_
      obtain rfl := Option.some.inj hf
      exact e_iret dX10_pairs_10 trivial hP

theorem dX10_between_0 : decode cX10_between 0 = .ok (.aload_n 0, 1) := by decide +kernel
theorem dX10_between_1 : decode cX10_between 1 = .ok (.iload_n 2, 1) := by decide +kernel
theorem dX10_between_2 : decode cX10_between 2 = .ok (.invokevirtual 164, 3) := by decide +kernel
theorem dX10_between_5 : decode cX10_between 5 = .ok (.ifCond .eq 14, 3) := by decide +kernel
theorem dX10_between_8 : decode cX10_between 8 = .ok (.aload_n 0, 1) := by decide +kernel
theorem dX10_between_9 : decode cX10_between 9 = .ok (.getfield 22, 3) := by decide +kernel
theorem dX10_between_12 : decode cX10_between 12 = .ok (.iload_n 3, 1) := by decide +kernel
theorem dX10_between_13 : decode cX10_between 13 = .ok (.invokevirtual 208, 3) := by decide +kernel
theorem dX10_between_16 : decode cX10_between 16 = .ok (.ifCond .ne 5, 3) := by decide +kernel
theorem dX10_between_19 : decode cX10_between 19 = .ok (.iconst (-1), 1) := by decide +kernel
theorem dX10_between_20 : decode cX10_between 20 = .ok (.ireturn, 1) := by decide +kernel
theorem dX10_between_21 : decode cX10_between 21 = .ok (.aload_n 0, 1) := by decide +kernel
theorem dX10_between_22 : decode cX10_between 22 = .ok (.iload_n 1, 1) := by decide +kernel
theorem dX10_between_23 : decode cX10_between 23 = .ok (.iconst 0, 1) := by decide +kernel
theorem dX10_between_24 : decode cX10_between 24 = .ok (.invokevirtual 177, 3) := by decide +kernel
theorem dX10_between_27 : decode cX10_between 27 = .ok (.istore 4, 2) := by decide +kernel
theorem dX10_between_29 : decode cX10_between 29 = .ok (.iload 4, 2) := by decide +kernel
theorem dX10_between_31 : decode cX10_between 31 = .ok (.ifCond .eq 6, 3) := by decide +kernel
theorem dX10_between_34 : decode cX10_between 34 = .ok (.iload 4, 2) := by decide +kernel
theorem dX10_between_36 : decode cX10_between 36 = .ok (.ireturn, 1) := by decide +kernel
theorem dX10_between_37 : decode cX10_between 37 = .ok (.aload_n 0, 1) := by decide +kernel
theorem dX10_between_38 : decode cX10_between 38 = .ok (.getfield 16, 3) := by decide +kernel
theorem dX10_between_41 : decode cX10_between 41 = .ok (.aload_n 0, 1) := by decide +kernel
theorem dX10_between_42 : decode cX10_between 42 = .ok (.getfield 10, 3) := by decide +kernel
theorem dX10_between_45 : decode cX10_between 45 = .ok (.invokevirtual 197, 3) := by decide +kernel
theorem dX10_between_48 : decode cX10_between 48 = .ok (.iconst 0, 1) := by decide +kernel
theorem dX10_between_49 : decode cX10_between 49 = .ok (.istore 5, 2) := by decide +kernel
theorem dX10_between_51 : decode cX10_between 51 = .ok (.iload 5, 2) := by decide +kernel
theorem dX10_between_53 : decode cX10_between 53 = .ok (.bipush 60, 2) := by decide +kernel
theorem dX10_between_55 : decode cX10_between 55 = .ok (.if_icmp .gt 50, 3) := by decide +kernel
theorem dX10_between_58 : decode cX10_between 58 = .ok (.aload_n 0, 1) := by decide +kernel
theorem dX10_between_59 : decode cX10_between 59 = .ok (.aload_n 0, 1) := by decide +kernel
theorem dX10_between_60 : decode cX10_between 60 = .ok (.getfield 42, 3) := by decide +kernel
theorem dX10_between_63 : decode cX10_between 63 = .ok (.iload_n 1, 1) := by decide +kernel
theorem dX10_between_64 : decode cX10_between 64 = .ok (.aaload, 1) := by decide +kernel
theorem dX10_between_65 : decode cX10_between 65 = .ok (.aload_n 0, 1) := by decide +kernel
theorem dX10_between_66 : decode cX10_between 66 = .ok (.getfield 16, 3) := by decide +kernel
theorem dX10_between_69 : decode cX10_between 69 = .ok (.iload_n 3, 1) := by decide +kernel
theorem dX10_between_70 : decode cX10_between 70 = .ok (.iload_n 2, 1) := by decide +kernel
theorem dX10_between_71 : decode cX10_between 71 = .ok (.bipush 10, 2) := by decide +kernel
theorem dX10_between_73 : decode cX10_between 73 = .ok (.irem, 1) := by decide +kernel
theorem dX10_between_74 : decode cX10_between 74 = .ok (.invokevirtual 242, 3) := by decide +kernel
theorem dX10_between_77 : decode cX10_between 77 = .ok (.ifCond .eq 6, 3) := by decide +kernel
theorem dX10_between_80 : decode cX10_between 80 = .ok (.iload 5, 2) := by decide +kernel
theorem dX10_between_82 : decode cX10_between 82 = .ok (.ireturn, 1) := by decide +kernel
theorem dX10_between_83 : decode cX10_between 83 = .ok (.aload_n 0, 1) := by decide +kernel
theorem dX10_between_84 : decode cX10_between 84 = .ok (.aload_n 0, 1) := by decide +kernel
theorem dX10_between_85 : decode cX10_between 85 = .ok (.getfield 16, 3) := by decide +kernel
theorem dX10_between_88 : decode cX10_between 88 = .ok (.iload_n 2, 1) := by decide +kernel
theorem dX10_between_89 : decode cX10_between 89 = .ok (.bipush 10, 2) := by decide +kernel
theorem dX10_between_91 : decode cX10_between 91 = .ok (.idiv, 1) := by decide +kernel
theorem dX10_between_92 : decode cX10_between 92 = .ok (.iload_n 2, 1) := by decide +kernel
theorem dX10_between_93 : decode cX10_between 93 = .ok (.bipush 10, 2) := by decide +kernel
theorem dX10_between_95 : decode cX10_between 95 = .ok (.irem, 1) := by decide +kernel
theorem dX10_between_96 : decode cX10_between 96 = .ok (.invokevirtual 254, 3) := by decide +kernel
theorem dX10_between_99 : decode cX10_between 99 = .ok (.iinc 5 1, 3) := by decide +kernel
theorem dX10_between_102 : decode cX10_between 102 = .ok (.goto (-51), 3) := by decide +kernel
theorem dX10_between_105 : decode cX10_between 105 = .ok (.bipush (-2), 2) := by decide +kernel
theorem dX10_between_107 : decode cX10_between 107 = .ok (.ireturn, 1) := by decide +kernel
def fX10_between_b51 : Nat → Int32 → Int32 → Int32 → Int32 → mS → Option (Int32 × mS)
  | 0, _, _, _, _, _ => none
  | k + 1, y1, y2, y3, y5, s =>
    if (nI 60) < y5 then
      some ((-2), s)
    else
      ldS 6 y1 fun j7 =>
      bP (fX10_fits j7 1 y3 (y2 - y2 / (nI 10) * (nI 10)) s) fun r8 s9 =>
      if r8 = 0 then
        bO (fX10_pass 1 (y2 / (nI 10)) (y2 - y2 / (nI 10) * (nI 10)) s9) fun s10 =>
        bnd (y5 + (nI 1)) fun v11 =>
        fX10_between_b51 k y1 y2 y3 v11 s10
      else
        some (y5, s9)

def fX10_between (x1 : Int32) (x2 : Int32) (x3 : Int32) (s : mS) : Option (Int32 × mS) :=
  bO (fX10_isPair x2 s) fun r1 =>
  if r1 = 0 then
    some ((-1), s)
  else
    bO (fX9_has 0 x3 s) fun r2 =>
    if r2 = 0 then
      some ((-1), s)
    else
      bO (fX10_rowRefusal x1 (nI 0) s) fun r3 =>
      bnd r3 fun v4 =>
      if v4 = 0 then
        bO (fX6_copy 1 0 s) fun s5 =>
        bnd (nI 0) fun v6 =>
        fX10_between_b51 mFu x1 x2 x3 v6 s5
      else
        some (v4, s)

set_option maxRecDepth 20000 in
theorem wX10_between_b51 {ρ : mRo} {d : Nat} {P : mPo} {V : mS → List mE} (hV : mView LC V)  {res : (Int32 × mS)} (hP : P (some (.int res.1)) (V res.2)) : ∀ (k : Nat) (y1 : Int32) (y2 : Int32) (y3 : Int32) (y5 : Int32) (s : mS), fX10_between_b51 k y1 y2 y3 y5 s = some res → mG ρ (mC ρ (d + 6)) 10 6 cX10_between (some .int) P 51 [(0, .ref qT), (1, .int y1), (2, .int y2), (3, .int y3), (5, .int y5)] [] (V s) := by
  intro k
  induction k with
  | zero => intro y1 y2 y3 y5 s hf; rw [fX10_between_b51] at hf; cases hf
  | succ k ih =>
    intro y1 y2 y3 y5 s hf
    rw [fX10_between_b51] at hf
    refine e_iload 4 dX10_between_51 rfl ?_
    refine e_bipush (w := (nI 60)) dX10_between_53 (by decide) ?_
    refine e_icmp_gt 105 dX10_between_55 (by decide) hf (fun hf => ?_) (fun hf => ?_)
    · refine e_bipush (w := (-2)) dX10_between_105 (by decide) ?_
      obtain rfl := Option.some.inj hf
      exact e_iret dX10_between_107 trivial hP
    · refine e_aload_n 0 dX10_between_58 rfl rfl ?_
      refine e_aload_n 0 dX10_between_59 rfl rfl ?_
      refine e_getr hV dX10_between_60 rfl lc_T rfl ?_
      refine e_iload_n 1 dX10_between_63 rfl rfl ?_
      refine e_aald hV dX10_between_64 lc_T_shelves rfl lc_T_shelves_at hf (fun j7 hj7 hf => ?_)
      refine e_aload_n 0 dX10_between_65 rfl rfl ?_
      refine e_getr hV dX10_between_66 rfl lc_T rfl ?_
      refine e_iload_n 3 dX10_between_69 rfl rfl ?_
      refine e_iload_n 2 dX10_between_70 rfl rfl ?_
      refine e_bipush (w := (nI 10)) dX10_between_71 (by decide) ?_
      refine e_irem dX10_between_73 (by decide) ?_
      obtain ⟨r8, s9, hg, hf⟩ := bP_some hf
      refine e_callV (as := [.ref (qS j7), .ref (qM 1), .int y3, .int (y2 - y2 / (nI 10) * (nI 10))]) (v := (some (.int r8))) (s' := s9) hV dX10_between_74 (Or.inl rfl) rfl rfl rfl rfl (Nat.le_of_ble_eq_true rfl) lc_T rfl rfl (fun Q hQ => tX10_fits (d := d) hV hj7 (by decide) hg hQ) ?_
      refine e_if_eq 83 dX10_between_77 (by decide) hf (fun hf => ?_) (fun hf => ?_)
      · refine e_aload_n 0 dX10_between_83 rfl rfl ?_
        refine e_aload_n 0 dX10_between_84 rfl rfl ?_
        refine e_getr hV dX10_between_85 rfl lc_T rfl ?_
        refine e_iload_n 2 dX10_between_88 rfl rfl ?_
        refine e_bipush (w := (nI 10)) dX10_between_89 (by decide) ?_
        refine e_idiv dX10_between_91 (by decide) ?_
        refine e_iload_n 2 dX10_between_92 rfl rfl ?_
        refine e_bipush (w := (nI 10)) dX10_between_93 (by decide) ?_
        refine e_irem dX10_between_95 (by decide) ?_
        obtain ⟨s10, hg, hf⟩ := bO_some hf
        refine e_callV (as := [.ref (qM 1), .int (y2 / (nI 10)), .int (y2 - y2 / (nI 10) * (nI 10))]) (v := none) (s' := s10) hV dX10_between_96 (Or.inl rfl) rfl rfl rfl rfl (Nat.le_of_ble_eq_true rfl) lc_T rfl rfl (fun Q hQ => tX10_pass (d := (d + 4)) hV (by decide) hg hQ) ?_
        refine e_iinc 4 dX10_between_99 (by decide) rfl hf (fun v11 hf => ?_)
        refine e_goto 51 dX10_between_102 (by decide) ?_
        refine e_pick [1, 2, 3, 4, 0] rfl ?_
        exact ih y1 y2 y3 v11 s10 hf
      · refine e_iload 4 dX10_between_80 rfl ?_
        obtain rfl := Option.some.inj hf
        exact e_iret dX10_between_82 trivial hP
set_option maxRecDepth 20000 in
theorem tX10_between {ρ : mRo} {d : Nat} {P : mPo} {V : mS → List mE} (hV : mView LC V)  {x1 : Int32} {x2 : Int32} {x3 : Int32} {s : mS} {res : (Int32 × mS)} (hf : fX10_between x1 x2 x3 s = some res) (hP : P (some (.int res.1)) (V res.2)) : mC ρ (d + 7) 83 [.ref qT, .int x1, .int x2, .int x3] (V s) P := by
  refine ⟨_, rfl, Nat.le_of_ble_eq_true rfl, by decide, ?_⟩
  show mG ρ (mC ρ (d + 6)) 10 6 cX10_between (some .int) P 0 [(0, .ref qT), (1, .int x1), (2, .int x2), (3, .int x3)] [] (V s)
  unfold fX10_between at hf
  refine e_aload_n 0 dX10_between_0 rfl rfl ?_
  refine e_iload_n 2 dX10_between_1 rfl rfl ?_
  obtain ⟨r1, hg, hf⟩ := bO_some hf
  refine e_callV (as := [.int x2]) (v := (some (.int r1))) (s' := s) hV dX10_between_2 (Or.inl rfl) rfl rfl rfl rfl (Nat.le_of_ble_eq_true rfl) lc_T rfl rfl (fun Q hQ => tX10_isPair (d := (d + 4)) hV  hg hQ) ?_
  refine e_if_eq 19 dX10_between_5 (by decide) hf (fun hf => ?_) (fun hf => ?_)
  · refine e_iconst (w := (-1)) dX10_between_19 (by decide) ?_
    obtain rfl := Option.some.inj hf
    exact e_iret dX10_between_20 trivial hP
  · refine e_aload_n 0 dX10_between_8 rfl rfl ?_
    refine e_getr hV dX10_between_9 rfl lc_T rfl ?_
    refine e_iload_n 3 dX10_between_12 rfl rfl ?_
    obtain ⟨r2, hg, hf⟩ := bO_some hf
    refine e_callV (as := [.int x3]) (v := (some (.int r2))) (s' := s) hV dX10_between_13 (Or.inl rfl) rfl rfl rfl rfl (Nat.le_of_ble_eq_true rfl) (lc_W (by decide)) rfl rfl (fun Q hQ => tX9_has (d := (d + 5)) hV (by decide) hg hQ) ?_
    refine e_if_ne 21 dX10_between_16 (by decide) hf (fun hf => ?_) (fun hf => ?_)
    · refine e_aload_n 0 dX10_between_21 rfl rfl ?_
      refine e_iload_n 1 dX10_between_22 rfl rfl ?_
      refine e_iconst (w := (nI 0)) dX10_between_23 (by decide) ?_
      obtain ⟨r3, hg, hf⟩ := bO_some hf
      refine e_callV (as := [.int x1, .int (nI 0)]) (v := (some (.int r3))) (s' := s) hV dX10_between_24 (Or.inl rfl) rfl rfl rfl rfl (Nat.le_of_ble_eq_true rfl) lc_T rfl rfl (fun Q hQ => tX10_rowRefusal (d := (d + 4)) hV  hg hQ) ?_
      refine e_istore dX10_between_27 (by decide) hf (fun v4 hf => ?_)
      refine e_iload 0 dX10_between_29 rfl ?_
      refine e_if_eq 37 dX10_between_31 (by decide) hf (fun hf => ?_) (fun hf => ?_)
      · refine e_aload_n 1 dX10_between_37 rfl rfl ?_
        refine e_getr hV dX10_between_38 rfl lc_T rfl ?_
        refine e_aload_n 1 dX10_between_41 rfl rfl ?_
        refine e_getr hV dX10_between_42 rfl lc_T rfl ?_
        obtain ⟨s5, hg, hf⟩ := bO_some hf
        refine e_callV (as := [.ref (qM 0)]) (v := none) (s' := s5) hV dX10_between_45 (Or.inl rfl) rfl rfl rfl rfl (Nat.le_of_ble_eq_true rfl) (lc_M (by decide)) rfl rfl (fun Q hQ => tX6_copy (d := (d + 4)) hV (by decide) (by decide) hg hQ) ?_
        refine e_iconst (w := (nI 0)) dX10_between_48 (by decide) ?_
        refine e_istore dX10_between_49 (by decide) hf (fun v6 hf => ?_)
        refine e_pick [2, 3, 4, 5, 0] rfl ?_
        exact wX10_between_b51 hV hP mFu x1 x2 x3 v6 s5 hf
      · refine e_iload 0 dX10_between_34 rfl ?_
        obtain rfl := Option.some.inj hf
        exact e_iret dX10_between_36 trivial hP
    · refine e_iconst (w := (-1)) dX10_between_19 (by decide) ?_
      obtain rfl := Option.some.inj hf
      exact e_iret dX10_between_20 trivial hP

theorem dX10_firstWrong_0 : decode cX10_firstWrong 0 = .ok (.aload_n 0, 1) := by decide +kernel
theorem dX10_firstWrong_1 : decode cX10_firstWrong 1 = .ok (.getfield 16, 3) := by decide +kernel
theorem dX10_firstWrong_4 : decode cX10_firstWrong 4 = .ok (.aload_n 0, 1) := by decide +kernel
theorem dX10_firstWrong_5 : decode cX10_firstWrong 5 = .ok (.getfield 10, 3) := by decide +kernel
theorem dX10_firstWrong_8 : decode cX10_firstWrong 8 = .ok (.invokevirtual 197, 3) := by decide +kernel
theorem dX10_firstWrong_11 : decode cX10_firstWrong 11 = .ok (.aload_n 0, 1) := by decide +kernel
theorem dX10_firstWrong_12 : decode cX10_firstWrong 12 = .ok (.getfield 16, 3) := by decide +kernel
theorem dX10_firstWrong_15 : decode cX10_firstWrong 15 = .ok (.iload_n 2, 1) := by decide +kernel
theorem dX10_firstWrong_16 : decode cX10_firstWrong 16 = .ok (.putfield 258, 3) := by decide +kernel
theorem dX10_firstWrong_19 : decode cX10_firstWrong 19 = .ok (.iconst 0, 1) := by decide +kernel
theorem dX10_firstWrong_20 : decode cX10_firstWrong 20 = .ok (.istore 5, 2) := by decide +kernel
theorem dX10_firstWrong_22 : decode cX10_firstWrong 22 = .ok (.iconst 3, 1) := by decide +kernel
theorem dX10_firstWrong_23 : decode cX10_firstWrong 23 = .ok (.iload 5, 2) := by decide +kernel
theorem dX10_firstWrong_25 : decode cX10_firstWrong 25 = .ok (.imul, 1) := by decide +kernel
theorem dX10_firstWrong_26 : decode cX10_firstWrong 26 = .ok (.aload_n 1, 1) := by decide +kernel
theorem dX10_firstWrong_27 : decode cX10_firstWrong 27 = .ok (.getfield 109, 3) := by decide +kernel
theorem dX10_firstWrong_30 : decode cX10_firstWrong 30 = .ok (.if_icmp .ge 128, 3) := by decide +kernel
theorem dX10_firstWrong_33 : decode cX10_firstWrong 33 = .ok (.aload_n 1, 1) := by decide +kernel
theorem dX10_firstWrong_34 : decode cX10_firstWrong 34 = .ok (.iconst 3, 1) := by decide +kernel
theorem dX10_firstWrong_35 : decode cX10_firstWrong 35 = .ok (.iload 5, 2) := by decide +kernel
theorem dX10_firstWrong_37 : decode cX10_firstWrong 37 = .ok (.imul, 1) := by decide +kernel
theorem dX10_firstWrong_38 : decode cX10_firstWrong 38 = .ok (.iconst 3, 1) := by decide +kernel
theorem dX10_firstWrong_39 : decode cX10_firstWrong 39 = .ok (.invokevirtual 383, 3) := by decide +kernel
theorem dX10_firstWrong_42 : decode cX10_firstWrong 42 = .ok (.ifCond .ne 6, 3) := by decide +kernel
theorem dX10_firstWrong_45 : decode cX10_firstWrong 45 = .ok (.iload 5, 2) := by decide +kernel
theorem dX10_firstWrong_47 : decode cX10_firstWrong 47 = .ok (.ireturn, 1) := by decide +kernel
theorem dX10_firstWrong_48 : decode cX10_firstWrong 48 = .ok (.iload 5, 2) := by decide +kernel
theorem dX10_firstWrong_50 : decode cX10_firstWrong 50 = .ok (.iload_n 3, 1) := by decide +kernel
theorem dX10_firstWrong_51 : decode cX10_firstWrong 51 = .ok (.if_icmp .ne 8, 3) := by decide +kernel
theorem dX10_firstWrong_54 : decode cX10_firstWrong 54 = .ok (.iload 4, 2) := by decide +kernel
theorem dX10_firstWrong_56 : decode cX10_firstWrong 56 = .ok (.goto 13, 3) := by decide +kernel
theorem dX10_firstWrong_59 : decode cX10_firstWrong 59 = .ok (.aload_n 1, 1) := by decide +kernel
theorem dX10_firstWrong_60 : decode cX10_firstWrong 60 = .ok (.getfield 117, 3) := by decide +kernel
theorem dX10_firstWrong_63 : decode cX10_firstWrong 63 = .ok (.iconst 3, 1) := by decide +kernel
theorem dX10_firstWrong_64 : decode cX10_firstWrong 64 = .ok (.iload 5, 2) := by decide +kernel
theorem dX10_firstWrong_66 : decode cX10_firstWrong 66 = .ok (.imul, 1) := by decide +kernel
theorem dX10_firstWrong_67 : decode cX10_firstWrong 67 = .ok (.laload, 1) := by decide +kernel
theorem dX10_firstWrong_68 : decode cX10_firstWrong 68 = .ok (.l2i, 1) := by decide +kernel
theorem dX10_firstWrong_69 : decode cX10_firstWrong 69 = .ok (.istore 6, 2) := by decide +kernel
theorem dX10_firstWrong_71 : decode cX10_firstWrong 71 = .ok (.aload_n 1, 1) := by decide +kernel
theorem dX10_firstWrong_72 : decode cX10_firstWrong 72 = .ok (.getfield 117, 3) := by decide +kernel
theorem dX10_firstWrong_75 : decode cX10_firstWrong 75 = .ok (.iconst 3, 1) := by decide +kernel
theorem dX10_firstWrong_76 : decode cX10_firstWrong 76 = .ok (.iload 5, 2) := by decide +kernel
theorem dX10_firstWrong_78 : decode cX10_firstWrong 78 = .ok (.imul, 1) := by decide +kernel
theorem dX10_firstWrong_79 : decode cX10_firstWrong 79 = .ok (.iconst 1, 1) := by decide +kernel
theorem dX10_firstWrong_80 : decode cX10_firstWrong 80 = .ok (.iadd, 1) := by decide +kernel
theorem dX10_firstWrong_81 : decode cX10_firstWrong 81 = .ok (.laload, 1) := by decide +kernel
theorem dX10_firstWrong_82 : decode cX10_firstWrong 82 = .ok (.l2i, 1) := by decide +kernel
theorem dX10_firstWrong_83 : decode cX10_firstWrong 83 = .ok (.istore 7, 2) := by decide +kernel
theorem dX10_firstWrong_85 : decode cX10_firstWrong 85 = .ok (.aload_n 0, 1) := by decide +kernel
theorem dX10_firstWrong_86 : decode cX10_firstWrong 86 = .ok (.getfield 22, 3) := by decide +kernel
theorem dX10_firstWrong_89 : decode cX10_firstWrong 89 = .ok (.iload 6, 2) := by decide +kernel
theorem dX10_firstWrong_91 : decode cX10_firstWrong 91 = .ok (.invokevirtual 208, 3) := by decide +kernel
theorem dX10_firstWrong_94 : decode cX10_firstWrong 94 = .ok (.ifCond .eq 43, 3) := by decide +kernel
theorem dX10_firstWrong_97 : decode cX10_firstWrong 97 = .ok (.aload_n 0, 1) := by decide +kernel
theorem dX10_firstWrong_98 : decode cX10_firstWrong 98 = .ok (.getfield 10, 3) := by decide +kernel
theorem dX10_firstWrong_101 : decode cX10_firstWrong 101 = .ok (.iload 7, 2) := by decide +kernel
theorem dX10_firstWrong_103 : decode cX10_firstWrong 103 = .ok (.invokevirtual 174, 3) := by decide +kernel
theorem dX10_firstWrong_106 : decode cX10_firstWrong 106 = .ok (.ifCond .eq 31, 3) := by decide +kernel
theorem dX10_firstWrong_109 : decode cX10_firstWrong 109 = .ok (.aload_n 0, 1) := by decide +kernel
theorem dX10_firstWrong_110 : decode cX10_firstWrong 110 = .ok (.aload_n 0, 1) := by decide +kernel
theorem dX10_firstWrong_111 : decode cX10_firstWrong 111 = .ok (.getfield 16, 3) := by decide +kernel
theorem dX10_firstWrong_114 : decode cX10_firstWrong 114 = .ok (.iload 6, 2) := by decide +kernel
theorem dX10_firstWrong_116 : decode cX10_firstWrong 116 = .ok (.iload 7, 2) := by decide +kernel
theorem dX10_firstWrong_118 : decode cX10_firstWrong 118 = .ok (.invokevirtual 193, 3) := by decide +kernel
theorem dX10_firstWrong_121 : decode cX10_firstWrong 121 = .ok (.i2l, 1) := by decide +kernel
theorem dX10_firstWrong_122 : decode cX10_firstWrong 122 = .ok (.aload_n 1, 1) := by decide +kernel
theorem dX10_firstWrong_123 : decode cX10_firstWrong 123 = .ok (.getfield 117, 3) := by decide +kernel
theorem dX10_firstWrong_126 : decode cX10_firstWrong 126 = .ok (.iconst 3, 1) := by decide +kernel
theorem dX10_firstWrong_127 : decode cX10_firstWrong 127 = .ok (.iload 5, 2) := by decide +kernel
theorem dX10_firstWrong_129 : decode cX10_firstWrong 129 = .ok (.imul, 1) := by decide +kernel
theorem dX10_firstWrong_130 : decode cX10_firstWrong 130 = .ok (.iconst 2, 1) := by decide +kernel
theorem dX10_firstWrong_131 : decode cX10_firstWrong 131 = .ok (.iadd, 1) := by decide +kernel
theorem dX10_firstWrong_132 : decode cX10_firstWrong 132 = .ok (.laload, 1) := by decide +kernel
theorem dX10_firstWrong_133 : decode cX10_firstWrong 133 = .ok (.lcmp, 1) := by decide +kernel
theorem dX10_firstWrong_134 : decode cX10_firstWrong 134 = .ok (.ifCond .eq 6, 3) := by decide +kernel
theorem dX10_firstWrong_137 : decode cX10_firstWrong 137 = .ok (.iload 5, 2) := by decide +kernel
theorem dX10_firstWrong_139 : decode cX10_firstWrong 139 = .ok (.ireturn, 1) := by decide +kernel
theorem dX10_firstWrong_140 : decode cX10_firstWrong 140 = .ok (.aload_n 0, 1) := by decide +kernel
theorem dX10_firstWrong_141 : decode cX10_firstWrong 141 = .ok (.aload_n 0, 1) := by decide +kernel
theorem dX10_firstWrong_142 : decode cX10_firstWrong 142 = .ok (.getfield 16, 3) := by decide +kernel
theorem dX10_firstWrong_145 : decode cX10_firstWrong 145 = .ok (.iload 6, 2) := by decide +kernel
theorem dX10_firstWrong_147 : decode cX10_firstWrong 147 = .ok (.iload 7, 2) := by decide +kernel
theorem dX10_firstWrong_149 : decode cX10_firstWrong 149 = .ok (.invokevirtual 254, 3) := by decide +kernel
theorem dX10_firstWrong_152 : decode cX10_firstWrong 152 = .ok (.iinc 5 1, 3) := by decide +kernel
theorem dX10_firstWrong_155 : decode cX10_firstWrong 155 = .ok (.goto (-133), 3) := by decide +kernel
theorem dX10_firstWrong_158 : decode cX10_firstWrong 158 = .ok (.bipush (-2), 2) := by decide +kernel
theorem dX10_firstWrong_160 : decode cX10_firstWrong 160 = .ok (.ireturn, 1) := by decide +kernel
def fX10_firstWrong_b69 (K22 : Nat → Int32 → Int32 → Int32 → mS → Option (Int32 × mS)) (k1 : Nat) (y3 : Int32) (y4 : Int32) (y5 : Int32) (z0 : Int32) (s : mS) : Option (Int32 × mS) :=
  bnd z0 fun v6 =>
  ldL s (lS_cells k1) 60 (((nI 3) * y5) + (nI 1)) fun v7 =>
  bnd (Int64.toInt32 v7) fun v8 =>
  bO (fX9_has 0 v6 s) fun r9 =>
  if r9 = 0 then
    some (y5, s)
  else
    bO (fX6_has 0 v8 s) fun r10 =>
    if r10 = 0 then
      some (y5, s)
    else
      bP (fX10_shownCode 1 v6 v8 s) fun r11 s12 =>
      ldL s12 (lS_cells k1) 60 (((nI 3) * y5) + (nI 2)) fun v13 =>
      if (lg_cmp (Int32.toInt64 r11) v13) = 0 then
        bO (fX10_pass 1 v6 v8 s12) fun s14 =>
        bnd (y5 + (nI 1)) fun v15 =>
        K22 k1 y3 y4 v15 s14
      else
        some (y5, s12)

def fX10_firstWrong_b22 : Nat → Nat → Int32 → Int32 → Int32 → mS → Option (Int32 × mS)
  | 0, _, _, _, _, _ => none
  | k + 1, k1, y3, y4, y5, s =>
    if (gI s (iS_size k1)) ≤ ((nI 3) * y5) then
      some ((-2), s)
    else
      bO (fX7_hasSpan k1 ((nI 3) * y5) (nI 3) s) fun r4 =>
      if r4 = 0 then
        some (y5, s)
      else
        if y5 = y3 then
          fX10_firstWrong_b69 (fun u0 u1 u2 u3 u4 => fX10_firstWrong_b22 k u0 u1 u2 u3 u4) k1 y3 y4 y5 y4 s
        else
          ldL s (lS_cells k1) 60 ((nI 3) * y5) fun v5 =>
          fX10_firstWrong_b69 (fun u0 u1 u2 u3 u4 => fX10_firstWrong_b22 k u0 u1 u2 u3 u4) k1 y3 y4 y5 (Int64.toInt32 v5) s

def fX10_firstWrong (k1 : Nat) (x2 : Int32) (x3 : Int32) (x4 : Int32) (s : mS) : Option (Int32 × mS) :=
  bO (fX6_copy 1 0 s) fun s1 =>
  bnd (pI s1 (iM_ribbon 1) x2) fun s2 =>
  bnd (nI 0) fun v3 =>
  fX10_firstWrong_b22 mFu k1 x3 x4 v3 s2

set_option maxRecDepth 20000 in
theorem wX10_firstWrong_b69 {ρ : mRo} {d : Nat} {P : mPo} {V : mS → List mE} (hV : mView LC V)  {res : (Int32 × mS)} {K22 : Nat → Int32 → Int32 → Int32 → mS → Option (Int32 × mS)} (hK22 : ∀ (k1 : Nat) (hk1 : k1 < 6) (y3 : Int32) (y4 : Int32) (y5 : Int32) (s : mS), K22 k1 y3 y4 y5 s = some res → mG ρ (mC ρ (d + 6)) 10 8 cX10_firstWrong (some .int) P 22 [(0, .ref qT), (1, .ref (qS k1)), (3, .int y3), (4, .int y4), (5, .int y5)] [] (V s)) (hP : P (some (.int res.1)) (V res.2)) (k1 : Nat) (hk1 : k1 < 6) (y3 : Int32) (y4 : Int32) (y5 : Int32) (z0 : Int32) (s : mS) (hf : fX10_firstWrong_b69 K22 k1 y3 y4 y5 z0 s = some res) : mG ρ (mC ρ (d + 6)) 10 8 cX10_firstWrong (some .int) P 69 [(0, .ref qT), (1, .ref (qS k1)), (3, .int y3), (4, .int y4), (5, .int y5)] [.int z0] (V s) := by
  unfold fX10_firstWrong_b69 at hf
  refine e_istore dX10_firstWrong_69 (by decide) hf (fun v6 hf => ?_)
  refine e_aload_n 2 dX10_firstWrong_71 rfl rfl ?_
  refine e_getr hV dX10_firstWrong_72 rfl (lc_S hk1) rfl ?_
  refine e_iconst (w := (nI 3)) dX10_firstWrong_75 (by decide) ?_
  refine e_iload 5 dX10_firstWrong_76 rfl ?_
  refine e_imul dX10_firstWrong_78 ?_
  refine e_iconst (w := (nI 1)) dX10_firstWrong_79 (by decide) ?_
  refine e_iadd dX10_firstWrong_80 ?_
  refine e_lald hV dX10_firstWrong_81 (lc_S_cells hk1) hf (fun v7 hf => ?_)
  refine e_l2i dX10_firstWrong_82 ?_
  refine e_istore dX10_firstWrong_83 (by decide) hf (fun v8 hf => ?_)
  refine e_aload_n 2 dX10_firstWrong_85 rfl rfl ?_
  refine e_getr hV dX10_firstWrong_86 rfl lc_T rfl ?_
  refine e_iload 1 dX10_firstWrong_89 rfl ?_
  obtain ⟨r9, hg, hf⟩ := bO_some hf
  refine e_callV (as := [.int v6]) (v := (some (.int r9))) (s' := s) hV dX10_firstWrong_91 (Or.inl rfl) rfl rfl rfl rfl (Nat.le_of_ble_eq_true rfl) (lc_W (by decide)) rfl rfl (fun Q hQ => tX9_has (d := (d + 5)) hV (by decide) hg hQ) ?_
  refine e_if_eq 137 dX10_firstWrong_94 (by decide) hf (fun hf => ?_) (fun hf => ?_)
  · refine e_iload 6 dX10_firstWrong_137 rfl ?_
    obtain rfl := Option.some.inj hf
    exact e_iret dX10_firstWrong_139 trivial hP
  · refine e_aload_n 2 dX10_firstWrong_97 rfl rfl ?_
    refine e_getr hV dX10_firstWrong_98 rfl lc_T rfl ?_
    refine e_iload 0 dX10_firstWrong_101 rfl ?_
    obtain ⟨r10, hg, hf⟩ := bO_some hf
    refine e_callV (as := [.int v8]) (v := (some (.int r10))) (s' := s) hV dX10_firstWrong_103 (Or.inl rfl) rfl rfl rfl rfl (Nat.le_of_ble_eq_true rfl) (lc_M (by decide)) rfl rfl (fun Q hQ => tX6_has (d := (d + 5)) hV (by decide) hg hQ) ?_
    refine e_if_eq 137 dX10_firstWrong_106 (by decide) hf (fun hf => ?_) (fun hf => ?_)
    · refine e_iload 6 dX10_firstWrong_137 rfl ?_
      obtain rfl := Option.some.inj hf
      exact e_iret dX10_firstWrong_139 trivial hP
    · refine e_aload_n 2 dX10_firstWrong_109 rfl rfl ?_
      refine e_aload_n 2 dX10_firstWrong_110 rfl rfl ?_
      refine e_getr hV dX10_firstWrong_111 rfl lc_T rfl ?_
      refine e_iload 1 dX10_firstWrong_114 rfl ?_
      refine e_iload 0 dX10_firstWrong_116 rfl ?_
      obtain ⟨r11, s12, hg, hf⟩ := bP_some hf
      refine e_callV (as := [.ref (qM 1), .int v6, .int v8]) (v := (some (.int r11))) (s' := s12) hV dX10_firstWrong_118 (Or.inl rfl) rfl rfl rfl rfl (Nat.le_of_ble_eq_true rfl) lc_T rfl rfl (fun Q hQ => tX10_shownCode (d := d) hV (by decide) hg hQ) ?_
      refine e_i2l dX10_firstWrong_121 ?_
      refine e_aload_n 3 dX10_firstWrong_122 rfl rfl ?_
      refine e_getr hV dX10_firstWrong_123 rfl (lc_S hk1) rfl ?_
      refine e_iconst (w := (nI 3)) dX10_firstWrong_126 (by decide) ?_
      refine e_iload 6 dX10_firstWrong_127 rfl ?_
      refine e_imul dX10_firstWrong_129 ?_
      refine e_iconst (w := (nI 2)) dX10_firstWrong_130 (by decide) ?_
      refine e_iadd dX10_firstWrong_131 ?_
      refine e_lald hV dX10_firstWrong_132 (lc_S_cells hk1) hf (fun v13 hf => ?_)
      refine e_lcmp dX10_firstWrong_133 ?_
      refine e_if_eq 140 dX10_firstWrong_134 (by decide) hf (fun hf => ?_) (fun hf => ?_)
      · refine e_aload_n 2 dX10_firstWrong_140 rfl rfl ?_
        refine e_aload_n 2 dX10_firstWrong_141 rfl rfl ?_
        refine e_getr hV dX10_firstWrong_142 rfl lc_T rfl ?_
        refine e_iload 1 dX10_firstWrong_145 rfl ?_
        refine e_iload 0 dX10_firstWrong_147 rfl ?_
        obtain ⟨s14, hg, hf⟩ := bO_some hf
        refine e_callV (as := [.ref (qM 1), .int v6, .int v8]) (v := none) (s' := s14) hV dX10_firstWrong_149 (Or.inl rfl) rfl rfl rfl rfl (Nat.le_of_ble_eq_true rfl) lc_T rfl rfl (fun Q hQ => tX10_pass (d := (d + 4)) hV (by decide) hg hQ) ?_
        refine e_iinc 6 dX10_firstWrong_152 (by decide) rfl hf (fun v15 hf => ?_)
        refine e_goto 22 dX10_firstWrong_155 (by decide) ?_
        refine e_pick [3, 4, 5, 6, 0] rfl ?_
        exact hK22 k1 hk1 y3 y4 v15 s14 hf
      · refine e_iload 6 dX10_firstWrong_137 rfl ?_
        obtain rfl := Option.some.inj hf
        exact e_iret dX10_firstWrong_139 trivial hP
set_option maxRecDepth 20000 in
theorem wX10_firstWrong_b22 {ρ : mRo} {d : Nat} {P : mPo} {V : mS → List mE} (hV : mView LC V)  {res : (Int32 × mS)} (hP : P (some (.int res.1)) (V res.2)) : ∀ (k : Nat) (k1 : Nat) (hk1 : k1 < 6) (y3 : Int32) (y4 : Int32) (y5 : Int32) (s : mS), fX10_firstWrong_b22 k k1 y3 y4 y5 s = some res → mG ρ (mC ρ (d + 6)) 10 8 cX10_firstWrong (some .int) P 22 [(0, .ref qT), (1, .ref (qS k1)), (3, .int y3), (4, .int y4), (5, .int y5)] [] (V s) := by
  intro k
  induction k with
  | zero => intro k1 hk1 y3 y4 y5 s hf; rw [fX10_firstWrong_b22] at hf; cases hf
  | succ k ih =>
    intro k1 hk1 y3 y4 y5 s hf
    rw [fX10_firstWrong_b22] at hf
    refine e_iconst (w := (nI 3)) dX10_firstWrong_22 (by decide) ?_
    refine e_iload 4 dX10_firstWrong_23 rfl ?_
    refine e_imul dX10_firstWrong_25 ?_
    refine e_aload_n 1 dX10_firstWrong_26 rfl rfl ?_
    refine e_geti hV dX10_firstWrong_27 rfl (lc_S hk1) rfl ?_
    refine e_icmp_ge 158 dX10_firstWrong_30 (by decide) hf (fun hf => ?_) (fun hf => ?_)
    · refine e_bipush (w := (-2)) dX10_firstWrong_158 (by decide) ?_
      obtain rfl := Option.some.inj hf
      exact e_iret dX10_firstWrong_160 trivial hP
    · refine e_aload_n 1 dX10_firstWrong_33 rfl rfl ?_
      refine e_iconst (w := (nI 3)) dX10_firstWrong_34 (by decide) ?_
      refine e_iload 4 dX10_firstWrong_35 rfl ?_
      refine e_imul dX10_firstWrong_37 ?_
      refine e_iconst (w := (nI 3)) dX10_firstWrong_38 (by decide) ?_
      obtain ⟨r4, hg, hf⟩ := bO_some hf
      refine e_callV (as := [.int ((nI 3) * y5), .int (nI 3)]) (v := (some (.int r4))) (s' := s) hV dX10_firstWrong_39 (Or.inl rfl) rfl rfl rfl rfl (Nat.le_of_ble_eq_true rfl) (lc_S hk1) rfl rfl (fun Q hQ => tX7_hasSpan (d := (d + 5)) hV hk1 hg hQ) ?_
      refine e_if_ne 48 dX10_firstWrong_42 (by decide) hf (fun hf => ?_) (fun hf => ?_)
      · refine e_iload 4 dX10_firstWrong_48 rfl ?_
        refine e_iload_n 2 dX10_firstWrong_50 rfl rfl ?_
        refine e_icmp_ne 59 dX10_firstWrong_51 (by decide) hf (fun hf => ?_) (fun hf => ?_)
        · refine e_aload_n 1 dX10_firstWrong_59 rfl rfl ?_
          refine e_getr hV dX10_firstWrong_60 rfl (lc_S hk1) rfl ?_
          refine e_iconst (w := (nI 3)) dX10_firstWrong_63 (by decide) ?_
          refine e_iload 4 dX10_firstWrong_64 rfl ?_
          refine e_imul dX10_firstWrong_66 ?_
          refine e_lald hV dX10_firstWrong_67 (lc_S_cells hk1) hf (fun v5 hf => ?_)
          refine e_l2i dX10_firstWrong_68 ?_
          refine e_pick [0, 1, 2, 3, 4] rfl ?_
          exact wX10_firstWrong_b69 hV ih hP k1 hk1 y3 y4 y5 (Int64.toInt32 v5) s hf
        · refine e_iload 3 dX10_firstWrong_54 rfl ?_
          refine e_goto 69 dX10_firstWrong_56 (by decide) ?_
          refine e_pick [0, 1, 2, 3, 4] rfl ?_
          exact wX10_firstWrong_b69 hV ih hP k1 hk1 y3 y4 y5 y4 s hf
      · refine e_iload 4 dX10_firstWrong_45 rfl ?_
        obtain rfl := Option.some.inj hf
        exact e_iret dX10_firstWrong_47 trivial hP
set_option maxRecDepth 20000 in
theorem tX10_firstWrong {ρ : mRo} {d : Nat} {P : mPo} {V : mS → List mE} (hV : mView LC V)  {k1 : Nat} (hk1 : k1 < 6) {x2 : Int32} {x3 : Int32} {x4 : Int32} {s : mS} {res : (Int32 × mS)} (hf : fX10_firstWrong k1 x2 x3 x4 s = some res) (hP : P (some (.int res.1)) (V res.2)) : mC ρ (d + 7) 134 [.ref qT, .ref (qS k1), .int x2, .int x3, .int x4] (V s) P := by
  refine ⟨_, rfl, Nat.le_of_ble_eq_true rfl, by decide, ?_⟩
  show mG ρ (mC ρ (d + 6)) 10 8 cX10_firstWrong (some .int) P 0 [(0, .ref qT), (1, .ref (qS k1)), (2, .int x2), (3, .int x3), (4, .int x4)] [] (V s)
  unfold fX10_firstWrong at hf
  refine e_aload_n 0 dX10_firstWrong_0 rfl rfl ?_
  refine e_getr hV dX10_firstWrong_1 rfl lc_T rfl ?_
  refine e_aload_n 0 dX10_firstWrong_4 rfl rfl ?_
  refine e_getr hV dX10_firstWrong_5 rfl lc_T rfl ?_
  obtain ⟨s1, hg, hf⟩ := bO_some hf
  refine e_callV (as := [.ref (qM 0)]) (v := none) (s' := s1) hV dX10_firstWrong_8 (Or.inl rfl) rfl rfl rfl rfl (Nat.le_of_ble_eq_true rfl) (lc_M (by decide)) rfl rfl (fun Q hQ => tX6_copy (d := (d + 4)) hV (by decide) (by decide) hg hQ) ?_
  refine e_aload_n 0 dX10_firstWrong_11 rfl rfl ?_
  refine e_getr hV dX10_firstWrong_12 rfl lc_T rfl ?_
  refine e_iload_n 2 dX10_firstWrong_15 rfl rfl ?_
  refine e_puti hV dX10_firstWrong_16 rfl rfl rfl (Or.inl rfl) (lc_M (by decide)) rfl hf (fun s2 hf => ?_)
  refine e_iconst (w := (nI 0)) dX10_firstWrong_19 (by decide) ?_
  refine e_istore dX10_firstWrong_20 (by decide) hf (fun v3 hf => ?_)
  refine e_pick [1, 2, 4, 5, 0] rfl ?_
  exact wX10_firstWrong_b22 hV hP mFu k1 hk1 x3 x4 v3 s2 hf

theorem dX10_judge_0 : decode cX10_judge 0 = .ok (.aload_n 0, 1) := by decide +kernel
theorem dX10_judge_1 : decode cX10_judge 1 = .ok (.iload_n 1, 1) := by decide +kernel
theorem dX10_judge_2 : decode cX10_judge 2 = .ok (.iconst 1, 1) := by decide +kernel
theorem dX10_judge_3 : decode cX10_judge 3 = .ok (.invokevirtual 177, 3) := by decide +kernel
theorem dX10_judge_6 : decode cX10_judge 6 = .ok (.istore_n 2, 1) := by decide +kernel
theorem dX10_judge_7 : decode cX10_judge 7 = .ok (.iload_n 2, 1) := by decide +kernel
theorem dX10_judge_8 : decode cX10_judge 8 = .ok (.ifCond .eq 7, 3) := by decide +kernel
theorem dX10_judge_11 : decode cX10_judge 11 = .ok (.iload_n 2, 1) := by decide +kernel
theorem dX10_judge_12 : decode cX10_judge 12 = .ok (.goto 22, 3) := by decide +kernel
theorem dX10_judge_15 : decode cX10_judge 15 = .ok (.aload_n 0, 1) := by decide +kernel
theorem dX10_judge_16 : decode cX10_judge 16 = .ok (.aload_n 0, 1) := by decide +kernel
theorem dX10_judge_17 : decode cX10_judge 17 = .ok (.getfield 42, 3) := by decide +kernel
theorem dX10_judge_20 : decode cX10_judge 20 = .ok (.iload_n 1, 1) := by decide +kernel
theorem dX10_judge_21 : decode cX10_judge 21 = .ok (.aaload, 1) := by decide +kernel
theorem dX10_judge_22 : decode cX10_judge 22 = .ok (.aload_n 0, 1) := by decide +kernel
theorem dX10_judge_23 : decode cX10_judge 23 = .ok (.getfield 10, 3) := by decide +kernel
theorem dX10_judge_26 : decode cX10_judge 26 = .ok (.getfield 258, 3) := by decide +kernel
theorem dX10_judge_29 : decode cX10_judge 29 = .ok (.iconst (-1), 1) := by decide +kernel
theorem dX10_judge_30 : decode cX10_judge 30 = .ok (.iconst (-1), 1) := by decide +kernel
theorem dX10_judge_31 : decode cX10_judge 31 = .ok (.invokevirtual 261, 3) := by decide +kernel
theorem dX10_judge_34 : decode cX10_judge 34 = .ok (.ireturn, 1) := by decide +kernel
def fX10_judge (x1 : Int32) (s : mS) : Option (Int32 × mS) :=
  bO (fX10_rowRefusal x1 (nI 1) s) fun r1 =>
  bnd r1 fun v2 =>
  if v2 = 0 then
    ldS 6 x1 fun j3 =>
    bP (fX10_firstWrong j3 (gI s (iM_ribbon 0)) (-1) (-1) s) fun r4 s5 =>
    some (r4, s5)
  else
    some (v2, s)

set_option maxRecDepth 20000 in
theorem tX10_judge {ρ : mRo} {d : Nat} {P : mPo} {V : mS → List mE} (hV : mView LC V)  {x1 : Int32} {s : mS} {res : (Int32 × mS)} (hf : fX10_judge x1 s = some res) (hP : P (some (.int res.1)) (V res.2)) : mC ρ (d + 8) 84 [.ref qT, .int x1] (V s) P := by
  refine ⟨_, rfl, Nat.le_of_ble_eq_true rfl, by decide, ?_⟩
  show mG ρ (mC ρ (d + 7)) 10 3 cX10_judge (some .int) P 0 [(0, .ref qT), (1, .int x1)] [] (V s)
  unfold fX10_judge at hf
  refine e_aload_n 0 dX10_judge_0 rfl rfl ?_
  refine e_iload_n 1 dX10_judge_1 rfl rfl ?_
  refine e_iconst (w := (nI 1)) dX10_judge_2 (by decide) ?_
  obtain ⟨r1, hg, hf⟩ := bO_some hf
  refine e_callV (as := [.int x1, .int (nI 1)]) (v := (some (.int r1))) (s' := s) hV dX10_judge_3 (Or.inl rfl) rfl rfl rfl rfl (Nat.le_of_ble_eq_true rfl) lc_T rfl rfl (fun Q hQ => tX10_rowRefusal (d := (d + 5)) hV  hg hQ) ?_
  refine e_istore_n dX10_judge_6 rfl (by decide) hf (fun v2 hf => ?_)
  refine e_iload_n 0 dX10_judge_7 rfl rfl ?_
  refine e_if_eq 15 dX10_judge_8 (by decide) hf (fun hf => ?_) (fun hf => ?_)
  · refine e_aload_n 1 dX10_judge_15 rfl rfl ?_
    refine e_aload_n 1 dX10_judge_16 rfl rfl ?_
    refine e_getr hV dX10_judge_17 rfl lc_T rfl ?_
    refine e_iload_n 2 dX10_judge_20 rfl rfl ?_
    refine e_aald hV dX10_judge_21 lc_T_shelves rfl lc_T_shelves_at hf (fun j3 hj3 hf => ?_)
    refine e_aload_n 1 dX10_judge_22 rfl rfl ?_
    refine e_getr hV dX10_judge_23 rfl lc_T rfl ?_
    refine e_geti hV dX10_judge_26 rfl (lc_M (by decide)) rfl ?_
    refine e_iconst (w := (-1)) dX10_judge_29 (by decide) ?_
    refine e_iconst (w := (-1)) dX10_judge_30 (by decide) ?_
    obtain ⟨r4, s5, hg, hf⟩ := bP_some hf
    refine e_callV (as := [.ref (qS j3), .int (gI s (iM_ribbon 0)), .int (-1), .int (-1)]) (v := (some (.int r4))) (s' := s5) hV dX10_judge_31 (Or.inl rfl) rfl rfl rfl rfl (Nat.le_of_ble_eq_true rfl) lc_T rfl rfl (fun Q hQ => tX10_firstWrong (d := d) hV hj3 hg hQ) ?_
    obtain rfl := Option.some.inj hf
    exact e_iret dX10_judge_34 trivial hP
  · refine e_iload_n 0 dX10_judge_11 rfl rfl ?_
    refine e_goto 34 dX10_judge_12 (by decide) ?_
    obtain rfl := Option.some.inj hf
    exact e_iret dX10_judge_34 trivial hP

theorem dX10_falseOne_0 : decode cX10_falseOne 0 = .ok (.iload_n 2, 1) := by decide +kernel
theorem dX10_falseOne_1 : decode cX10_falseOne 1 = .ok (.ifCond .ge 5, 3) := by decide +kernel
theorem dX10_falseOne_4 : decode cX10_falseOne 4 = .ok (.iconst (-1), 1) := by decide +kernel
theorem dX10_falseOne_5 : decode cX10_falseOne 5 = .ok (.ireturn, 1) := by decide +kernel
theorem dX10_falseOne_6 : decode cX10_falseOne 6 = .ok (.aload_n 0, 1) := by decide +kernel
theorem dX10_falseOne_7 : decode cX10_falseOne 7 = .ok (.iload_n 1, 1) := by decide +kernel
theorem dX10_falseOne_8 : decode cX10_falseOne 8 = .ok (.iconst 1, 1) := by decide +kernel
theorem dX10_falseOne_9 : decode cX10_falseOne 9 = .ok (.invokevirtual 177, 3) := by decide +kernel
theorem dX10_falseOne_12 : decode cX10_falseOne 12 = .ok (.istore_n 3, 1) := by decide +kernel
theorem dX10_falseOne_13 : decode cX10_falseOne 13 = .ok (.iload_n 3, 1) := by decide +kernel
theorem dX10_falseOne_14 : decode cX10_falseOne 14 = .ok (.ifCond .eq 5, 3) := by decide +kernel
theorem dX10_falseOne_17 : decode cX10_falseOne 17 = .ok (.iload_n 3, 1) := by decide +kernel
theorem dX10_falseOne_18 : decode cX10_falseOne 18 = .ok (.ireturn, 1) := by decide +kernel
theorem dX10_falseOne_19 : decode cX10_falseOne 19 = .ok (.aload_n 0, 1) := by decide +kernel
theorem dX10_falseOne_20 : decode cX10_falseOne 20 = .ok (.getfield 42, 3) := by decide +kernel
theorem dX10_falseOne_23 : decode cX10_falseOne 23 = .ok (.iload_n 1, 1) := by decide +kernel
theorem dX10_falseOne_24 : decode cX10_falseOne 24 = .ok (.aaload, 1) := by decide +kernel
theorem dX10_falseOne_25 : decode cX10_falseOne 25 = .ok (.astore 4, 2) := by decide +kernel
theorem dX10_falseOne_27 : decode cX10_falseOne 27 = .ok (.iload_n 2, 1) := by decide +kernel
theorem dX10_falseOne_28 : decode cX10_falseOne 28 = .ok (.aload 4, 2) := by decide +kernel
theorem dX10_falseOne_30 : decode cX10_falseOne 30 = .ok (.getfield 109, 3) := by decide +kernel
theorem dX10_falseOne_33 : decode cX10_falseOne 33 = .ok (.iconst 3, 1) := by decide +kernel
theorem dX10_falseOne_34 : decode cX10_falseOne 34 = .ok (.idiv, 1) := by decide +kernel
theorem dX10_falseOne_35 : decode cX10_falseOne 35 = .ok (.if_icmp .lt 6, 3) := by decide +kernel
theorem dX10_falseOne_38 : decode cX10_falseOne 38 = .ok (.bipush (-2), 2) := by decide +kernel
theorem dX10_falseOne_40 : decode cX10_falseOne 40 = .ok (.ireturn, 1) := by decide +kernel
theorem dX10_falseOne_41 : decode cX10_falseOne 41 = .ok (.iconst 0, 1) := by decide +kernel
theorem dX10_falseOne_42 : decode cX10_falseOne 42 = .ok (.istore 5, 2) := by decide +kernel
theorem dX10_falseOne_44 : decode cX10_falseOne 44 = .ok (.iconst 0, 1) := by decide +kernel
theorem dX10_falseOne_45 : decode cX10_falseOne 45 = .ok (.istore 6, 2) := by decide +kernel
theorem dX10_falseOne_47 : decode cX10_falseOne 47 = .ok (.iload 6, 2) := by decide +kernel
theorem dX10_falseOne_49 : decode cX10_falseOne 49 = .ok (.aload_n 0, 1) := by decide +kernel
theorem dX10_falseOne_50 : decode cX10_falseOne 50 = .ok (.getfield 22, 3) := by decide +kernel
theorem dX10_falseOne_53 : decode cX10_falseOne 53 = .ok (.getfield 215, 3) := by decide +kernel
theorem dX10_falseOne_56 : decode cX10_falseOne 56 = .ok (.if_icmp .ge 55, 3) := by decide +kernel
theorem dX10_falseOne_59 : decode cX10_falseOne 59 = .ok (.iload 6, 2) := by decide +kernel
theorem dX10_falseOne_61 : decode cX10_falseOne 61 = .ok (.i2l, 1) := by decide +kernel
theorem dX10_falseOne_62 : decode cX10_falseOne 62 = .ok (.aload 4, 2) := by decide +kernel
theorem dX10_falseOne_64 : decode cX10_falseOne 64 = .ok (.getfield 117, 3) := by decide +kernel
theorem dX10_falseOne_67 : decode cX10_falseOne 67 = .ok (.iconst 3, 1) := by decide +kernel
theorem dX10_falseOne_68 : decode cX10_falseOne 68 = .ok (.iload_n 2, 1) := by decide +kernel
theorem dX10_falseOne_69 : decode cX10_falseOne 69 = .ok (.imul, 1) := by decide +kernel
theorem dX10_falseOne_70 : decode cX10_falseOne 70 = .ok (.laload, 1) := by decide +kernel
theorem dX10_falseOne_71 : decode cX10_falseOne 71 = .ok (.lcmp, 1) := by decide +kernel
theorem dX10_falseOne_72 : decode cX10_falseOne 72 = .ok (.ifCond .eq 33, 3) := by decide +kernel
theorem dX10_falseOne_75 : decode cX10_falseOne 75 = .ok (.aload_n 0, 1) := by decide +kernel
theorem dX10_falseOne_76 : decode cX10_falseOne 76 = .ok (.aload 4, 2) := by decide +kernel
theorem dX10_falseOne_78 : decode cX10_falseOne 78 = .ok (.aload_n 0, 1) := by decide +kernel
theorem dX10_falseOne_79 : decode cX10_falseOne 79 = .ok (.getfield 10, 3) := by decide +kernel
theorem dX10_falseOne_82 : decode cX10_falseOne 82 = .ok (.getfield 258, 3) := by decide +kernel
theorem dX10_falseOne_85 : decode cX10_falseOne 85 = .ok (.iload_n 2, 1) := by decide +kernel
theorem dX10_falseOne_86 : decode cX10_falseOne 86 = .ok (.iload 6, 2) := by decide +kernel
theorem dX10_falseOne_88 : decode cX10_falseOne 88 = .ok (.invokevirtual 261, 3) := by decide +kernel
theorem dX10_falseOne_91 : decode cX10_falseOne 91 = .ok (.bipush (-2), 2) := by decide +kernel
theorem dX10_falseOne_93 : decode cX10_falseOne 93 = .ok (.if_icmp .ne 12, 3) := by decide +kernel
theorem dX10_falseOne_96 : decode cX10_falseOne 96 = .ok (.iload 5, 2) := by decide +kernel
theorem dX10_falseOne_98 : decode cX10_falseOne 98 = .ok (.iconst 1, 1) := by decide +kernel
theorem dX10_falseOne_99 : decode cX10_falseOne 99 = .ok (.iload 6, 2) := by decide +kernel
theorem dX10_falseOne_101 : decode cX10_falseOne 101 = .ok (.ishl, 1) := by decide +kernel
theorem dX10_falseOne_102 : decode cX10_falseOne 102 = .ok (.ior, 1) := by decide +kernel
theorem dX10_falseOne_103 : decode cX10_falseOne 103 = .ok (.istore 5, 2) := by decide +kernel
theorem dX10_falseOne_105 : decode cX10_falseOne 105 = .ok (.iinc 6 1, 3) := by decide +kernel
theorem dX10_falseOne_108 : decode cX10_falseOne 108 = .ok (.goto (-61), 3) := by decide +kernel
theorem dX10_falseOne_111 : decode cX10_falseOne 111 = .ok (.iload 5, 2) := by decide +kernel
theorem dX10_falseOne_113 : decode cX10_falseOne 113 = .ok (.ireturn, 1) := by decide +kernel
def fX10_falseOne_b105 (K47 : Nat → Int32 → Int32 → Int32 → mS → Option (Int32 × mS)) (j3 : Nat) (y2 : Int32) (y5 : Int32) (y6 : Int32) (s : mS) : Option (Int32 × mS) :=
  bnd (y6 + (nI 1)) fun v7 =>
  K47 j3 y2 y5 v7 s

def fX10_falseOne_b47 : Nat → Nat → Int32 → Int32 → Int32 → mS → Option (Int32 × mS)
  | 0, _, _, _, _, _ => none
  | k + 1, j3, y2, y5, y6, s =>
    if (gI s (iW_size 0)) ≤ y6 then
      some (y5, s)
    else
      ldL s (lS_cells j3) 60 ((nI 3) * y2) fun v6 =>
      if (lg_cmp (Int32.toInt64 y6) v6) = 0 then
        fX10_falseOne_b105 (fun u0 u1 u2 u3 u4 => fX10_falseOne_b47 k u0 u1 u2 u3 u4) j3 y2 y5 y6 s
      else
        bP (fX10_firstWrong j3 (gI s (iM_ribbon 0)) y2 y6 s) fun r8 s9 =>
        if r8 = (-2) then
          bnd (y5 ||| ((nI 1) <<< (y6 &&& 31))) fun v10 =>
          fX10_falseOne_b105 (fun u0 u1 u2 u3 u4 => fX10_falseOne_b47 k u0 u1 u2 u3 u4) j3 y2 v10 y6 s9
        else
          fX10_falseOne_b105 (fun u0 u1 u2 u3 u4 => fX10_falseOne_b47 k u0 u1 u2 u3 u4) j3 y2 y5 y6 s9

def fX10_falseOne (x1 : Int32) (x2 : Int32) (s : mS) : Option (Int32 × mS) :=
  if 0 ≤ x2 then
    bO (fX10_rowRefusal x1 (nI 1) s) fun r1 =>
    bnd r1 fun v2 =>
    if v2 = 0 then
      ldS 6 x1 fun j3 =>
      if x2 < ((gI s (iS_size j3)) / (nI 3)) then
        bnd (nI 0) fun v4 =>
        bnd (nI 0) fun v5 =>
        fX10_falseOne_b47 mFu j3 x2 v4 v5 s
      else
        some ((-2), s)
    else
      some (v2, s)
  else
    some ((-1), s)

set_option maxRecDepth 20000 in
theorem wX10_falseOne_b105 {ρ : mRo} {d : Nat} {P : mPo} {V : mS → List mE} (hV : mView LC V)  {res : (Int32 × mS)} {K47 : Nat → Int32 → Int32 → Int32 → mS → Option (Int32 × mS)} (hK47 : ∀ (j3 : Nat) (hj3 : j3 < 6) (y2 : Int32) (y5 : Int32) (y6 : Int32) (s : mS), K47 j3 y2 y5 y6 s = some res → mG ρ (mC ρ (d + 7)) 10 7 cX10_falseOne (some .int) P 47 [(0, .ref qT), (2, .int y2), (4, .ref (qS j3)), (5, .int y5), (6, .int y6)] [] (V s)) (hP : P (some (.int res.1)) (V res.2)) (j3 : Nat) (hj3 : j3 < 6) (y2 : Int32) (y5 : Int32) (y6 : Int32) (s : mS) (hf : fX10_falseOne_b105 K47 j3 y2 y5 y6 s = some res) : mG ρ (mC ρ (d + 7)) 10 7 cX10_falseOne (some .int) P 105 [(0, .ref qT), (2, .int y2), (4, .ref (qS j3)), (5, .int y5), (6, .int y6)] [] (V s) := by
  unfold fX10_falseOne_b105 at hf
  refine e_iinc 4 dX10_falseOne_105 (by decide) rfl hf (fun v7 hf => ?_)
  refine e_goto 47 dX10_falseOne_108 (by decide) ?_
  refine e_pick [1, 2, 3, 4, 0] rfl ?_
  exact hK47 j3 hj3 y2 y5 v7 s hf
set_option maxRecDepth 20000 in
theorem wX10_falseOne_b47 {ρ : mRo} {d : Nat} {P : mPo} {V : mS → List mE} (hV : mView LC V)  {res : (Int32 × mS)} (hP : P (some (.int res.1)) (V res.2)) : ∀ (k : Nat) (j3 : Nat) (hj3 : j3 < 6) (y2 : Int32) (y5 : Int32) (y6 : Int32) (s : mS), fX10_falseOne_b47 k j3 y2 y5 y6 s = some res → mG ρ (mC ρ (d + 7)) 10 7 cX10_falseOne (some .int) P 47 [(0, .ref qT), (2, .int y2), (4, .ref (qS j3)), (5, .int y5), (6, .int y6)] [] (V s) := by
  intro k
  induction k with
  | zero => intro j3 hj3 y2 y5 y6 s hf; rw [fX10_falseOne_b47] at hf; cases hf
  | succ k ih =>
    intro j3 hj3 y2 y5 y6 s hf
    rw [fX10_falseOne_b47] at hf
    refine e_iload 4 dX10_falseOne_47 rfl ?_
    refine e_aload_n 0 dX10_falseOne_49 rfl rfl ?_
    refine e_getr hV dX10_falseOne_50 rfl lc_T rfl ?_
    refine e_geti hV dX10_falseOne_53 rfl (lc_W (by decide)) rfl ?_
    refine e_icmp_ge 111 dX10_falseOne_56 (by decide) hf (fun hf => ?_) (fun hf => ?_)
    · refine e_iload 3 dX10_falseOne_111 rfl ?_
      obtain rfl := Option.some.inj hf
      exact e_iret dX10_falseOne_113 trivial hP
    · refine e_iload 4 dX10_falseOne_59 rfl ?_
      refine e_i2l dX10_falseOne_61 ?_
      refine e_aload 2 dX10_falseOne_62 rfl ?_
      refine e_getr hV dX10_falseOne_64 rfl (lc_S hj3) rfl ?_
      refine e_iconst (w := (nI 3)) dX10_falseOne_67 (by decide) ?_
      refine e_iload_n 1 dX10_falseOne_68 rfl rfl ?_
      refine e_imul dX10_falseOne_69 ?_
      refine e_lald hV dX10_falseOne_70 (lc_S_cells hj3) hf (fun v6 hf => ?_)
      refine e_lcmp dX10_falseOne_71 ?_
      refine e_if_eq 105 dX10_falseOne_72 (by decide) hf (fun hf => ?_) (fun hf => ?_)
      · refine e_pick [0, 1, 2, 3, 4] rfl ?_
        exact wX10_falseOne_b105 hV ih hP j3 hj3 y2 y5 y6 s hf
      · refine e_aload_n 0 dX10_falseOne_75 rfl rfl ?_
        refine e_aload 2 dX10_falseOne_76 rfl ?_
        refine e_aload_n 0 dX10_falseOne_78 rfl rfl ?_
        refine e_getr hV dX10_falseOne_79 rfl lc_T rfl ?_
        refine e_geti hV dX10_falseOne_82 rfl (lc_M (by decide)) rfl ?_
        refine e_iload_n 1 dX10_falseOne_85 rfl rfl ?_
        refine e_iload 4 dX10_falseOne_86 rfl ?_
        obtain ⟨r8, s9, hg, hf⟩ := bP_some hf
        refine e_callV (as := [.ref (qS j3), .int (gI s (iM_ribbon 0)), .int y2, .int y6]) (v := (some (.int r8))) (s' := s9) hV dX10_falseOne_88 (Or.inl rfl) rfl rfl rfl rfl (Nat.le_of_ble_eq_true rfl) lc_T rfl rfl (fun Q hQ => tX10_firstWrong (d := d) hV hj3 hg hQ) ?_
        refine e_bipush (w := (-2)) dX10_falseOne_91 (by decide) ?_
        refine e_icmp_ne 105 dX10_falseOne_93 (by decide) hf (fun hf => ?_) (fun hf => ?_)
        · refine e_pick [0, 1, 2, 3, 4] rfl ?_
          exact wX10_falseOne_b105 hV ih hP j3 hj3 y2 y5 y6 s9 hf
        · refine e_iload 3 dX10_falseOne_96 rfl ?_
          refine e_iconst (w := (nI 1)) dX10_falseOne_98 (by decide) ?_
          refine e_iload 4 dX10_falseOne_99 rfl ?_
          refine e_ishl dX10_falseOne_101 ?_
          refine e_ior dX10_falseOne_102 ?_
          refine e_istore dX10_falseOne_103 (by decide) hf (fun v10 hf => ?_)
          refine e_pick [1, 2, 3, 0, 4] rfl ?_
          exact wX10_falseOne_b105 hV ih hP j3 hj3 y2 v10 y6 s9 hf
set_option maxRecDepth 20000 in
theorem tX10_falseOne {ρ : mRo} {d : Nat} {P : mPo} {V : mS → List mE} (hV : mView LC V)  {x1 : Int32} {x2 : Int32} {s : mS} {res : (Int32 × mS)} (hf : fX10_falseOne x1 x2 s = some res) (hP : P (some (.int res.1)) (V res.2)) : mC ρ (d + 8) 85 [.ref qT, .int x1, .int x2] (V s) P := by
  refine ⟨_, rfl, Nat.le_of_ble_eq_true rfl, by decide, ?_⟩
  show mG ρ (mC ρ (d + 7)) 10 7 cX10_falseOne (some .int) P 0 [(0, .ref qT), (1, .int x1), (2, .int x2)] [] (V s)
  unfold fX10_falseOne at hf
  refine e_iload_n 2 dX10_falseOne_0 rfl rfl ?_
  refine e_if_ge 6 dX10_falseOne_1 (by decide) hf (fun hf => ?_) (fun hf => ?_)
  · refine e_aload_n 0 dX10_falseOne_6 rfl rfl ?_
    refine e_iload_n 1 dX10_falseOne_7 rfl rfl ?_
    refine e_iconst (w := (nI 1)) dX10_falseOne_8 (by decide) ?_
    obtain ⟨r1, hg, hf⟩ := bO_some hf
    refine e_callV (as := [.int x1, .int (nI 1)]) (v := (some (.int r1))) (s' := s) hV dX10_falseOne_9 (Or.inl rfl) rfl rfl rfl rfl (Nat.le_of_ble_eq_true rfl) lc_T rfl rfl (fun Q hQ => tX10_rowRefusal (d := (d + 5)) hV  hg hQ) ?_
    refine e_istore_n dX10_falseOne_12 rfl (by decide) hf (fun v2 hf => ?_)
    refine e_iload_n 0 dX10_falseOne_13 rfl rfl ?_
    refine e_if_eq 19 dX10_falseOne_14 (by decide) hf (fun hf => ?_) (fun hf => ?_)
    · refine e_aload_n 1 dX10_falseOne_19 rfl rfl ?_
      refine e_getr hV dX10_falseOne_20 rfl lc_T rfl ?_
      refine e_iload_n 2 dX10_falseOne_23 rfl rfl ?_
      refine e_aald hV dX10_falseOne_24 lc_T_shelves rfl lc_T_shelves_at hf (fun j3 hj3 hf => ?_)
      refine e_astore dX10_falseOne_25 (by decide) ?_
      refine e_iload_n 4 dX10_falseOne_27 rfl rfl ?_
      refine e_aload 0 dX10_falseOne_28 rfl ?_
      refine e_geti hV dX10_falseOne_30 rfl (lc_S hj3) rfl ?_
      refine e_iconst (w := (nI 3)) dX10_falseOne_33 (by decide) ?_
      refine e_idiv dX10_falseOne_34 (by decide) ?_
      refine e_icmp_lt 41 dX10_falseOne_35 (by decide) hf (fun hf => ?_) (fun hf => ?_)
      · refine e_iconst (w := (nI 0)) dX10_falseOne_41 (by decide) ?_
        refine e_istore dX10_falseOne_42 (by decide) hf (fun v4 hf => ?_)
        refine e_iconst (w := (nI 0)) dX10_falseOne_44 (by decide) ?_
        refine e_istore dX10_falseOne_45 (by decide) hf (fun v5 hf => ?_)
        refine e_pick [4, 6, 2, 1, 0] rfl ?_
        exact wX10_falseOne_b47 hV hP mFu j3 hj3 x2 v4 v5 s hf
      · refine e_bipush (w := (-2)) dX10_falseOne_38 (by decide) ?_
        obtain rfl := Option.some.inj hf
        exact e_iret dX10_falseOne_40 trivial hP
    · refine e_iload_n 0 dX10_falseOne_17 rfl rfl ?_
      obtain rfl := Option.some.inj hf
      exact e_iret dX10_falseOne_18 trivial hP
  · refine e_iconst (w := (-1)) dX10_falseOne_4 (by decide) ?_
    obtain rfl := Option.some.inj hf
    exact e_iret dX10_falseOne_5 trivial hP
