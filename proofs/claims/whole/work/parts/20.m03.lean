-- bytecode to functions, by program (wip/gen/decomp.py)
theorem dX10_gripOf_0 : decode cX10_gripOf 0 = .ok (.aload_n 0, 1) := by decide +kernel
theorem dX10_gripOf_1 : decode cX10_gripOf 1 = .ok (.getfield 36, 3) := by decide +kernel
theorem dX10_gripOf_4 : decode cX10_gripOf 4 = .ok (.aload_n 1, 1) := by decide +kernel
theorem dX10_gripOf_5 : decode cX10_gripOf 5 = .ok (.getfield 184, 3) := by decide +kernel
theorem dX10_gripOf_8 : decode cX10_gripOf 8 = .ok (.iload_n 3, 1) := by decide +kernel
theorem dX10_gripOf_9 : decode cX10_gripOf 9 = .ok (.iaload, 1) := by decide +kernel
theorem dX10_gripOf_10 : decode cX10_gripOf 10 = .ok (.putfield 407, 3) := by decide +kernel
theorem dX10_gripOf_13 : decode cX10_gripOf 13 = .ok (.aload_n 0, 1) := by decide +kernel
theorem dX10_gripOf_14 : decode cX10_gripOf 14 = .ok (.getfield 36, 3) := by decide +kernel
theorem dX10_gripOf_17 : decode cX10_gripOf 17 = .ok (.aload_n 0, 1) := by decide +kernel
theorem dX10_gripOf_18 : decode cX10_gripOf 18 = .ok (.getfield 22, 3) := by decide +kernel
theorem dX10_gripOf_21 : decode cX10_gripOf 21 = .ok (.getfield 401, 3) := by decide +kernel
theorem dX10_gripOf_24 : decode cX10_gripOf 24 = .ok (.iload_n 2, 1) := by decide +kernel
theorem dX10_gripOf_25 : decode cX10_gripOf 25 = .ok (.iaload, 1) := by decide +kernel
theorem dX10_gripOf_26 : decode cX10_gripOf 26 = .ok (.putfield 410, 3) := by decide +kernel
theorem dX10_gripOf_29 : decode cX10_gripOf 29 = .ok (.aload_n 0, 1) := by decide +kernel
theorem dX10_gripOf_30 : decode cX10_gripOf 30 = .ok (.getfield 36, 3) := by decide +kernel
theorem dX10_gripOf_33 : decode cX10_gripOf 33 = .ok (.iload 4, 2) := by decide +kernel
theorem dX10_gripOf_35 : decode cX10_gripOf 35 = .ok (.putfield 413, 3) := by decide +kernel
theorem dX10_gripOf_38 : decode cX10_gripOf 38 = .ok (.aload_n 0, 1) := by decide +kernel
theorem dX10_gripOf_39 : decode cX10_gripOf 39 = .ok (.getfield 36, 3) := by decide +kernel
theorem dX10_gripOf_42 : decode cX10_gripOf 42 = .ok (.aload_n 0, 1) := by decide +kernel
theorem dX10_gripOf_43 : decode cX10_gripOf 43 = .ok (.getfield 22, 3) := by decide +kernel
theorem dX10_gripOf_46 : decode cX10_gripOf 46 = .ok (.iload_n 2, 1) := by decide +kernel
theorem dX10_gripOf_47 : decode cX10_gripOf 47 = .ok (.iload 4, 2) := by decide +kernel
theorem dX10_gripOf_49 : decode cX10_gripOf 49 = .ok (.invokevirtual 223, 3) := by decide +kernel
theorem dX10_gripOf_52 : decode cX10_gripOf 52 = .ok (.aload_n 1, 1) := by decide +kernel
theorem dX10_gripOf_53 : decode cX10_gripOf 53 = .ok (.iload_n 3, 1) := by decide +kernel
theorem dX10_gripOf_54 : decode cX10_gripOf 54 = .ok (.iload 4, 2) := by decide +kernel
theorem dX10_gripOf_56 : decode cX10_gripOf 56 = .ok (.invokevirtual 187, 3) := by decide +kernel
theorem dX10_gripOf_59 : decode cX10_gripOf 59 = .ok (.isub, 1) := by decide +kernel
theorem dX10_gripOf_60 : decode cX10_gripOf 60 = .ok (.invokestatic 416, 3) := by decide +kernel
theorem dX10_gripOf_63 : decode cX10_gripOf 63 = .ok (.putfield 421, 3) := by decide +kernel
theorem dX10_gripOf_66 : decode cX10_gripOf 66 = .ok (.aload_n 0, 1) := by decide +kernel
theorem dX10_gripOf_67 : decode cX10_gripOf 67 = .ok (.getfield 36, 3) := by decide +kernel
theorem dX10_gripOf_70 : decode cX10_gripOf 70 = .ok (.aload_n 1, 1) := by decide +kernel
theorem dX10_gripOf_71 : decode cX10_gripOf 71 = .ok (.getfield 258, 3) := by decide +kernel
theorem dX10_gripOf_74 : decode cX10_gripOf 74 = .ok (.putfield 424, 3) := by decide +kernel
theorem dX10_gripOf_77 : decode cX10_gripOf 77 = .ok (.aload_n 0, 1) := by decide +kernel
theorem dX10_gripOf_78 : decode cX10_gripOf 78 = .ok (.getfield 36, 3) := by decide +kernel
theorem dX10_gripOf_81 : decode cX10_gripOf 81 = .ok (.iload_n 3, 1) := by decide +kernel
theorem dX10_gripOf_82 : decode cX10_gripOf 82 = .ok (.putfield 425, 3) := by decide +kernel
theorem dX10_gripOf_85 : decode cX10_gripOf 85 = .ok (.aload_n 0, 1) := by decide +kernel
theorem dX10_gripOf_86 : decode cX10_gripOf 86 = .ok (.getfield 36, 3) := by decide +kernel
theorem dX10_gripOf_89 : decode cX10_gripOf 89 = .ok (.getfield 428, 3) := by decide +kernel
theorem dX10_gripOf_92 : decode cX10_gripOf 92 = .ok (.ifCond .eq 13, 3) := by decide +kernel
theorem dX10_gripOf_95 : decode cX10_gripOf 95 = .ok (.aload_n 0, 1) := by decide +kernel
theorem dX10_gripOf_96 : decode cX10_gripOf 96 = .ok (.getfield 36, 3) := by decide +kernel
theorem dX10_gripOf_99 : decode cX10_gripOf 99 = .ok (.invokevirtual 431, 3) := by decide +kernel
theorem dX10_gripOf_102 : decode cX10_gripOf 102 = .ok (.goto 26, 3) := by decide +kernel
theorem dX10_gripOf_105 : decode cX10_gripOf 105 = .ok (.bipush 6, 2) := by decide +kernel
theorem dX10_gripOf_107 : decode cX10_gripOf 107 = .ok (.aload_n 0, 1) := by decide +kernel
theorem dX10_gripOf_108 : decode cX10_gripOf 108 = .ok (.getfield 36, 3) := by decide +kernel
theorem dX10_gripOf_111 : decode cX10_gripOf 111 = .ok (.getfield 407, 3) := by decide +kernel
theorem dX10_gripOf_114 : decode cX10_gripOf 114 = .ok (.bipush 10, 2) := by decide +kernel
theorem dX10_gripOf_116 : decode cX10_gripOf 116 = .ok (.idiv, 1) := by decide +kernel
theorem dX10_gripOf_117 : decode cX10_gripOf 117 = .ok (.iadd, 1) := by decide +kernel
theorem dX10_gripOf_118 : decode cX10_gripOf 118 = .ok (.aload_n 0, 1) := by decide +kernel
theorem dX10_gripOf_119 : decode cX10_gripOf 119 = .ok (.getfield 36, 3) := by decide +kernel
theorem dX10_gripOf_122 : decode cX10_gripOf 122 = .ok (.getfield 410, 3) := by decide +kernel
theorem dX10_gripOf_125 : decode cX10_gripOf 125 = .ok (.iconst 3, 1) := by decide +kernel
theorem dX10_gripOf_126 : decode cX10_gripOf 126 = .ok (.idiv, 1) := by decide +kernel
theorem dX10_gripOf_127 : decode cX10_gripOf 127 = .ok (.isub, 1) := by decide +kernel
theorem dX10_gripOf_128 : decode cX10_gripOf 128 = .ok (.istore 5, 2) := by decide +kernel
theorem dX10_gripOf_130 : decode cX10_gripOf 130 = .ok (.iconst 0, 1) := by decide +kernel
theorem dX10_gripOf_131 : decode cX10_gripOf 131 = .ok (.bipush 12, 2) := by decide +kernel
theorem dX10_gripOf_133 : decode cX10_gripOf 133 = .ok (.iload 5, 2) := by decide +kernel
theorem dX10_gripOf_135 : decode cX10_gripOf 135 = .ok (.invokestatic 435, 3) := by decide +kernel
theorem dX10_gripOf_138 : decode cX10_gripOf 138 = .ok (.invokestatic 438, 3) := by decide +kernel
theorem dX10_gripOf_141 : decode cX10_gripOf 141 = .ok (.ireturn, 1) := by decide +kernel
def fX10_gripOf_b128 (z0 : Int32) (s : mS) : Option (Int32 × mS) :=
  bnd z0 fun v11 =>
  some (if (nI 0) < (if v11 < (nI 12) then v11 else (nI 12)) then (if v11 < (nI 12) then v11 else (nI 12)) else (nI 0), s)

def fX10_gripOf (k1 : Nat) (x2 : Int32) (x3 : Int32) (x4 : Int32) (s : mS) : Option (Int32 × mS) :=
  ldA s (aM_ages k1) 8 x3 fun v1 =>
  bnd (pI s iL_age v1) fun s2 =>
  ldA s2 (aW_touches 0) 8 x2 fun v3 =>
  bnd (pI s2 iL_touch v3) fun s4 =>
  bnd (pI s4 iL_habit x4) fun s5 =>
  bO (fX9_hand 0 x2 x4 s5) fun r6 =>
  bO (fX6_pull k1 x3 x4 s5) fun r7 =>
  bnd (pI s5 iL_unlike (if 0 ≤ (r6 - r7) then (r6 - r7) else 0 - (r6 - r7))) fun s8 =>
  bnd (pI s8 iL_ribbon (gI s8 (iM_ribbon k1))) fun s9 =>
  bnd (pI s9 iL_machine x3) fun s10 =>
  if (gI s10 iL_told) = 0 then
    fX10_gripOf_b128 (((nI 6) + ((gI s10 iL_age) / (nI 10))) - ((gI s10 iL_touch) / (nI 3))) s10
  else
    bP (fX4_value s10) fun r12 s13 =>
    fX10_gripOf_b128 r12 s13

set_option maxRecDepth 20000 in
theorem wX10_gripOf_b128 {ρ : mRo} {d : Nat} {P : mPo} {V : mS → List mE} (hV : mView LC V)  {res : (Int32 × mS)} (hP : P (some (.int res.1)) (V res.2)) (z0 : Int32) (s : mS) (hf : fX10_gripOf_b128 z0 s = some res) : mG ρ (mC ρ (d + 3)) 10 6 cX10_gripOf (some .int) P 128 [] [.int z0] (V s) := by
  unfold fX10_gripOf_b128 at hf
  refine e_istore dX10_gripOf_128 (by decide) hf (fun v11 hf => ?_)
  refine e_iconst (w := (nI 0)) dX10_gripOf_130 (by decide) ?_
  refine e_bipush (w := (nI 12)) dX10_gripOf_131 (by decide) ?_
  refine e_iload 0 dX10_gripOf_133 rfl ?_
  refine e_min dX10_gripOf_135 rfl (Nat.le_of_ble_eq_true rfl) ?_
  refine e_max dX10_gripOf_138 rfl (Nat.le_of_ble_eq_true rfl) ?_
  obtain rfl := Option.some.inj hf
  exact e_iret dX10_gripOf_141 trivial hP
set_option maxRecDepth 20000 in
theorem tX10_gripOf {ρ : mRo} {d : Nat} {P : mPo} {V : mS → List mE} (hV : mView LC V)  {k1 : Nat} (hk1 : k1 < 3) {x2 : Int32} {x3 : Int32} {x4 : Int32} {s : mS} {res : (Int32 × mS)} (hf : fX10_gripOf k1 x2 x3 x4 s = some res) (hP : P (some (.int res.1)) (V res.2)) : mC ρ (d + 4) 119 [.ref qT, .ref (qM k1), .int x2, .int x3, .int x4] (V s) P := by
  refine ⟨_, rfl, Nat.le_of_ble_eq_true rfl, by decide, ?_⟩
  show mG ρ (mC ρ (d + 3)) 10 6 cX10_gripOf (some .int) P 0 [(0, .ref qT), (1, .ref (qM k1)), (2, .int x2), (3, .int x3), (4, .int x4)] [] (V s)
  unfold fX10_gripOf at hf
  refine e_aload_n 0 dX10_gripOf_0 rfl rfl ?_
  refine e_getr hV dX10_gripOf_1 rfl lc_T rfl ?_
  refine e_aload_n 1 dX10_gripOf_4 rfl rfl ?_
  refine e_getr hV dX10_gripOf_5 rfl (lc_M hk1) rfl ?_
  refine e_iload_n 3 dX10_gripOf_8 rfl rfl ?_
  refine e_iald hV dX10_gripOf_9 (lc_M_ages hk1) hf (fun v1 hf => ?_)
  refine e_puti hV dX10_gripOf_10 rfl rfl rfl (Or.inl rfl) lc_L rfl hf (fun s2 hf => ?_)
  refine e_aload_n 0 dX10_gripOf_13 rfl rfl ?_
  refine e_getr hV dX10_gripOf_14 rfl lc_T rfl ?_
  refine e_aload_n 0 dX10_gripOf_17 rfl rfl ?_
  refine e_getr hV dX10_gripOf_18 rfl lc_T rfl ?_
  refine e_getr hV dX10_gripOf_21 rfl (lc_W (by decide)) rfl ?_
  refine e_iload_n 2 dX10_gripOf_24 rfl rfl ?_
  refine e_iald hV dX10_gripOf_25 (lc_W_touches (by decide)) hf (fun v3 hf => ?_)
  refine e_puti hV dX10_gripOf_26 rfl rfl rfl (Or.inl rfl) lc_L rfl hf (fun s4 hf => ?_)
  refine e_aload_n 0 dX10_gripOf_29 rfl rfl ?_
  refine e_getr hV dX10_gripOf_30 rfl lc_T rfl ?_
  refine e_iload 4 dX10_gripOf_33 rfl ?_
  refine e_puti hV dX10_gripOf_35 rfl rfl rfl (Or.inl rfl) lc_L rfl hf (fun s5 hf => ?_)
  refine e_aload_n 0 dX10_gripOf_38 rfl rfl ?_
  refine e_getr hV dX10_gripOf_39 rfl lc_T rfl ?_
  refine e_aload_n 0 dX10_gripOf_42 rfl rfl ?_
  refine e_getr hV dX10_gripOf_43 rfl lc_T rfl ?_
  refine e_iload_n 2 dX10_gripOf_46 rfl rfl ?_
  refine e_iload 4 dX10_gripOf_47 rfl ?_
  obtain ⟨r6, hg, hf⟩ := bO_some hf
  refine e_callV (as := [.int x2, .int x4]) (v := (some (.int r6))) (s' := s5) hV dX10_gripOf_49 (Or.inl rfl) rfl rfl rfl rfl (Nat.le_of_ble_eq_true rfl) (lc_W (by decide)) rfl rfl (fun Q hQ => tX9_hand (d := (d + 2)) hV (by decide) hg hQ) ?_
  refine e_aload_n 1 dX10_gripOf_52 rfl rfl ?_
  refine e_iload_n 3 dX10_gripOf_53 rfl rfl ?_
  refine e_iload 4 dX10_gripOf_54 rfl ?_
  obtain ⟨r7, hg, hf⟩ := bO_some hf
  refine e_callV (as := [.int x3, .int x4]) (v := (some (.int r7))) (s' := s5) hV dX10_gripOf_56 (Or.inl rfl) rfl rfl rfl rfl (Nat.le_of_ble_eq_true rfl) (lc_M hk1) rfl rfl (fun Q hQ => tX6_pull (d := (d + 2)) hV hk1 hg hQ) ?_
  refine e_isub dX10_gripOf_59 ?_
  refine e_abs dX10_gripOf_60 rfl (Nat.le_of_ble_eq_true rfl) ?_
  refine e_puti hV dX10_gripOf_63 rfl rfl rfl (Or.inl rfl) lc_L rfl hf (fun s8 hf => ?_)
  refine e_aload_n 0 dX10_gripOf_66 rfl rfl ?_
  refine e_getr hV dX10_gripOf_67 rfl lc_T rfl ?_
  refine e_aload_n 1 dX10_gripOf_70 rfl rfl ?_
  refine e_geti hV dX10_gripOf_71 rfl (lc_M hk1) rfl ?_
  refine e_puti hV dX10_gripOf_74 rfl rfl rfl (Or.inl rfl) lc_L rfl hf (fun s9 hf => ?_)
  refine e_aload_n 0 dX10_gripOf_77 rfl rfl ?_
  refine e_getr hV dX10_gripOf_78 rfl lc_T rfl ?_
  refine e_iload_n 3 dX10_gripOf_81 rfl rfl ?_
  refine e_puti hV dX10_gripOf_82 rfl rfl rfl (Or.inl rfl) lc_L rfl hf (fun s10 hf => ?_)
  refine e_aload_n 0 dX10_gripOf_85 rfl rfl ?_
  refine e_getr hV dX10_gripOf_86 rfl lc_T rfl ?_
  refine e_geti hV dX10_gripOf_89 rfl lc_L rfl ?_
  refine e_if_eq 105 dX10_gripOf_92 (by decide) hf (fun hf => ?_) (fun hf => ?_)
  · refine e_bipush (w := (nI 6)) dX10_gripOf_105 (by decide) ?_
    refine e_aload_n 0 dX10_gripOf_107 rfl rfl ?_
    refine e_getr hV dX10_gripOf_108 rfl lc_T rfl ?_
    refine e_geti hV dX10_gripOf_111 rfl lc_L rfl ?_
    refine e_bipush (w := (nI 10)) dX10_gripOf_114 (by decide) ?_
    refine e_idiv dX10_gripOf_116 (by decide) ?_
    refine e_iadd dX10_gripOf_117 ?_
    refine e_aload_n 0 dX10_gripOf_118 rfl rfl ?_
    refine e_getr hV dX10_gripOf_119 rfl lc_T rfl ?_
    refine e_geti hV dX10_gripOf_122 rfl lc_L rfl ?_
    refine e_iconst (w := (nI 3)) dX10_gripOf_125 (by decide) ?_
    refine e_idiv dX10_gripOf_126 (by decide) ?_
    refine e_isub dX10_gripOf_127 ?_
    refine e_pick [] rfl ?_
    exact wX10_gripOf_b128 hV hP (((nI 6) + ((gI s10 iL_age) / (nI 10))) - ((gI s10 iL_touch) / (nI 3))) s10 hf
  · refine e_aload_n 0 dX10_gripOf_95 rfl rfl ?_
    refine e_getr hV dX10_gripOf_96 rfl lc_T rfl ?_
    obtain ⟨r12, s13, hg, hf⟩ := bP_some hf
    refine e_callV (as := []) (v := (some (.int r12))) (s' := s13) hV dX10_gripOf_99 (Or.inl rfl) rfl rfl rfl rfl (Nat.le_of_ble_eq_true rfl) lc_L rfl rfl (fun Q hQ => tX4_value (d := d) hV  hg hQ) ?_
    refine e_goto 128 dX10_gripOf_102 (by decide) ?_
    refine e_pick [] rfl ?_
    exact wX10_gripOf_b128 hV hP r12 s13 hf

theorem dX10_shown_0 : decode cX10_shown 0 = .ok (.aload_n 0, 1) := by decide +kernel
theorem dX10_shown_1 : decode cX10_shown 1 = .ok (.aload_n 1, 1) := by decide +kernel
theorem dX10_shown_2 : decode cX10_shown 2 = .ok (.iload_n 2, 1) := by decide +kernel
theorem dX10_shown_3 : decode cX10_shown 3 = .ok (.iload_n 3, 1) := by decide +kernel
theorem dX10_shown_4 : decode cX10_shown 4 = .ok (.iload 4, 2) := by decide +kernel
theorem dX10_shown_6 : decode cX10_shown 6 = .ok (.invokevirtual 171, 3) := by decide +kernel
theorem dX10_shown_9 : decode cX10_shown 9 = .ok (.istore 5, 2) := by decide +kernel
theorem dX10_shown_11 : decode cX10_shown 11 = .ok (.aload_n 0, 1) := by decide +kernel
theorem dX10_shown_12 : decode cX10_shown 12 = .ok (.getfield 22, 3) := by decide +kernel
theorem dX10_shown_15 : decode cX10_shown 15 = .ok (.iload_n 2, 1) := by decide +kernel
theorem dX10_shown_16 : decode cX10_shown 16 = .ok (.iload 4, 2) := by decide +kernel
theorem dX10_shown_18 : decode cX10_shown 18 = .ok (.invokevirtual 223, 3) := by decide +kernel
theorem dX10_shown_21 : decode cX10_shown 21 = .ok (.bipush 12, 2) := by decide +kernel
theorem dX10_shown_23 : decode cX10_shown 23 = .ok (.iload 5, 2) := by decide +kernel
theorem dX10_shown_25 : decode cX10_shown 25 = .ok (.isub, 1) := by decide +kernel
theorem dX10_shown_26 : decode cX10_shown 26 = .ok (.imul, 1) := by decide +kernel
theorem dX10_shown_27 : decode cX10_shown 27 = .ok (.aload_n 1, 1) := by decide +kernel
theorem dX10_shown_28 : decode cX10_shown 28 = .ok (.iload_n 3, 1) := by decide +kernel
theorem dX10_shown_29 : decode cX10_shown 29 = .ok (.iload 4, 2) := by decide +kernel
theorem dX10_shown_31 : decode cX10_shown 31 = .ok (.invokevirtual 187, 3) := by decide +kernel
theorem dX10_shown_34 : decode cX10_shown 34 = .ok (.iload 5, 2) := by decide +kernel
theorem dX10_shown_36 : decode cX10_shown 36 = .ok (.imul, 1) := by decide +kernel
theorem dX10_shown_37 : decode cX10_shown 37 = .ok (.iadd, 1) := by decide +kernel
theorem dX10_shown_38 : decode cX10_shown 38 = .ok (.bipush 12, 2) := by decide +kernel
theorem dX10_shown_40 : decode cX10_shown 40 = .ok (.idiv, 1) := by decide +kernel
theorem dX10_shown_41 : decode cX10_shown 41 = .ok (.ireturn, 1) := by decide +kernel
def fX10_shown (k1 : Nat) (x2 : Int32) (x3 : Int32) (x4 : Int32) (s : mS) : Option (Int32 × mS) :=
  bP (fX10_gripOf k1 x2 x3 x4 s) fun r1 s2 =>
  bnd r1 fun v3 =>
  bO (fX9_hand 0 x2 x4 s2) fun r4 =>
  bO (fX6_pull k1 x3 x4 s2) fun r5 =>
  some (((r4 * ((nI 12) - v3)) + (r5 * v3)) / (nI 12), s2)

set_option maxRecDepth 20000 in
theorem tX10_shown {ρ : mRo} {d : Nat} {P : mPo} {V : mS → List mE} (hV : mView LC V)  {k1 : Nat} (hk1 : k1 < 3) {x2 : Int32} {x3 : Int32} {x4 : Int32} {s : mS} {res : (Int32 × mS)} (hf : fX10_shown k1 x2 x3 x4 s = some res) (hP : P (some (.int res.1)) (V res.2)) : mC ρ (d + 5) 120 [.ref qT, .ref (qM k1), .int x2, .int x3, .int x4] (V s) P := by
  refine ⟨_, rfl, Nat.le_of_ble_eq_true rfl, by decide, ?_⟩
  show mG ρ (mC ρ (d + 4)) 10 6 cX10_shown (some .int) P 0 [(0, .ref qT), (1, .ref (qM k1)), (2, .int x2), (3, .int x3), (4, .int x4)] [] (V s)
  unfold fX10_shown at hf
  refine e_aload_n 0 dX10_shown_0 rfl rfl ?_
  refine e_aload_n 1 dX10_shown_1 rfl rfl ?_
  refine e_iload_n 2 dX10_shown_2 rfl rfl ?_
  refine e_iload_n 3 dX10_shown_3 rfl rfl ?_
  refine e_iload 4 dX10_shown_4 rfl ?_
  obtain ⟨r1, s2, hg, hf⟩ := bP_some hf
  refine e_callV (as := [.ref (qM k1), .int x2, .int x3, .int x4]) (v := (some (.int r1))) (s' := s2) hV dX10_shown_6 (Or.inl rfl) rfl rfl rfl rfl (Nat.le_of_ble_eq_true rfl) lc_T rfl rfl (fun Q hQ => tX10_gripOf (d := d) hV hk1 hg hQ) ?_
  refine e_istore dX10_shown_9 (by decide) hf (fun v3 hf => ?_)
  refine e_aload_n 1 dX10_shown_11 rfl rfl ?_
  refine e_getr hV dX10_shown_12 rfl lc_T rfl ?_
  refine e_iload_n 3 dX10_shown_15 rfl rfl ?_
  refine e_iload 5 dX10_shown_16 rfl ?_
  obtain ⟨r4, hg, hf⟩ := bO_some hf
  refine e_callV (as := [.int x2, .int x4]) (v := (some (.int r4))) (s' := s2) hV dX10_shown_18 (Or.inl rfl) rfl rfl rfl rfl (Nat.le_of_ble_eq_true rfl) (lc_W (by decide)) rfl rfl (fun Q hQ => tX9_hand (d := (d + 3)) hV (by decide) hg hQ) ?_
  refine e_bipush (w := (nI 12)) dX10_shown_21 (by decide) ?_
  refine e_iload 0 dX10_shown_23 rfl ?_
  refine e_isub dX10_shown_25 ?_
  refine e_imul dX10_shown_26 ?_
  refine e_aload_n 2 dX10_shown_27 rfl rfl ?_
  refine e_iload_n 4 dX10_shown_28 rfl rfl ?_
  refine e_iload 5 dX10_shown_29 rfl ?_
  obtain ⟨r5, hg, hf⟩ := bO_some hf
  refine e_callV (as := [.int x3, .int x4]) (v := (some (.int r5))) (s' := s2) hV dX10_shown_31 (Or.inl rfl) rfl rfl rfl rfl (Nat.le_of_ble_eq_true rfl) (lc_M hk1) rfl rfl (fun Q hQ => tX6_pull (d := (d + 3)) hV hk1 hg hQ) ?_
  refine e_iload 0 dX10_shown_34 rfl ?_
  refine e_imul dX10_shown_36 ?_
  refine e_iadd dX10_shown_37 ?_
  refine e_bipush (w := (nI 12)) dX10_shown_38 (by decide) ?_
  refine e_idiv dX10_shown_40 (by decide) ?_
  obtain rfl := Option.some.inj hf
  exact e_iret dX10_shown_41 trivial hP

theorem dX10_shows_0 : decode cX10_shows 0 = .ok (.aload_n 0, 1) := by decide +kernel
theorem dX10_shows_1 : decode cX10_shows 1 = .ok (.iload_n 1, 1) := by decide +kernel
theorem dX10_shows_2 : decode cX10_shows 2 = .ok (.invokevirtual 164, 3) := by decide +kernel
theorem dX10_shows_5 : decode cX10_shows 5 = .ok (.ifCond .eq 21, 3) := by decide +kernel
theorem dX10_shows_8 : decode cX10_shows 8 = .ok (.iload_n 2, 1) := by decide +kernel
theorem dX10_shows_9 : decode cX10_shows 9 = .ok (.ifCond .lt 17, 3) := by decide +kernel
theorem dX10_shows_12 : decode cX10_shows 12 = .ok (.iload_n 2, 1) := by decide +kernel
theorem dX10_shows_13 : decode cX10_shows 13 = .ok (.iconst 3, 1) := by decide +kernel
theorem dX10_shows_14 : decode cX10_shows 14 = .ok (.if_icmp .ge 12, 3) := by decide +kernel
theorem dX10_shows_17 : decode cX10_shows 17 = .ok (.iload_n 3, 1) := by decide +kernel
theorem dX10_shows_18 : decode cX10_shows 18 = .ok (.ifCond .lt 8, 3) := by decide +kernel
theorem dX10_shows_21 : decode cX10_shows 21 = .ok (.iload_n 3, 1) := by decide +kernel
theorem dX10_shows_22 : decode cX10_shows 22 = .ok (.iconst 1, 1) := by decide +kernel
theorem dX10_shows_23 : decode cX10_shows 23 = .ok (.if_icmp .le 5, 3) := by decide +kernel
theorem dX10_shows_26 : decode cX10_shows 26 = .ok (.iconst (-1), 1) := by decide +kernel
theorem dX10_shows_27 : decode cX10_shows 27 = .ok (.ireturn, 1) := by decide +kernel
theorem dX10_shows_28 : decode cX10_shows 28 = .ok (.iload_n 3, 1) := by decide +kernel
theorem dX10_shows_29 : decode cX10_shows 29 = .ok (.ifCond .ne 23, 3) := by decide +kernel
theorem dX10_shows_32 : decode cX10_shows 32 = .ok (.aload_n 0, 1) := by decide +kernel
theorem dX10_shows_33 : decode cX10_shows 33 = .ok (.aload_n 0, 1) := by decide +kernel
theorem dX10_shows_34 : decode cX10_shows 34 = .ok (.getfield 10, 3) := by decide +kernel
theorem dX10_shows_37 : decode cX10_shows 37 = .ok (.iload_n 1, 1) := by decide +kernel
theorem dX10_shows_38 : decode cX10_shows 38 = .ok (.bipush 10, 2) := by decide +kernel
theorem dX10_shows_40 : decode cX10_shows 40 = .ok (.idiv, 1) := by decide +kernel
theorem dX10_shows_41 : decode cX10_shows 41 = .ok (.iload_n 1, 1) := by decide +kernel
theorem dX10_shows_42 : decode cX10_shows 42 = .ok (.bipush 10, 2) := by decide +kernel
theorem dX10_shows_44 : decode cX10_shows 44 = .ok (.irem, 1) := by decide +kernel
theorem dX10_shows_45 : decode cX10_shows 45 = .ok (.iload_n 2, 1) := by decide +kernel
theorem dX10_shows_46 : decode cX10_shows 46 = .ok (.invokevirtual 167, 3) := by decide +kernel
theorem dX10_shows_49 : decode cX10_shows 49 = .ok (.goto 20, 3) := by decide +kernel
theorem dX10_shows_52 : decode cX10_shows 52 = .ok (.aload_n 0, 1) := by decide +kernel
theorem dX10_shows_53 : decode cX10_shows 53 = .ok (.aload_n 0, 1) := by decide +kernel
theorem dX10_shows_54 : decode cX10_shows 54 = .ok (.getfield 10, 3) := by decide +kernel
theorem dX10_shows_57 : decode cX10_shows 57 = .ok (.iload_n 1, 1) := by decide +kernel
theorem dX10_shows_58 : decode cX10_shows 58 = .ok (.bipush 10, 2) := by decide +kernel
theorem dX10_shows_60 : decode cX10_shows 60 = .ok (.idiv, 1) := by decide +kernel
theorem dX10_shows_61 : decode cX10_shows 61 = .ok (.iload_n 1, 1) := by decide +kernel
theorem dX10_shows_62 : decode cX10_shows 62 = .ok (.bipush 10, 2) := by decide +kernel
theorem dX10_shows_64 : decode cX10_shows 64 = .ok (.irem, 1) := by decide +kernel
theorem dX10_shows_65 : decode cX10_shows 65 = .ok (.iload_n 2, 1) := by decide +kernel
theorem dX10_shows_66 : decode cX10_shows 66 = .ok (.invokevirtual 171, 3) := by decide +kernel
theorem dX10_shows_69 : decode cX10_shows 69 = .ok (.ireturn, 1) := by decide +kernel
def fX10_shows (x1 : Int32) (x2 : Int32) (x3 : Int32) (s : mS) : Option (Int32 × mS) :=
  bO (fX10_isPair x1 s) fun r1 =>
  if r1 = 0 then
    some ((-1), s)
  else
    if x2 < 0 then
      some ((-1), s)
    else
      if (nI 3) ≤ x2 then
        some ((-1), s)
      else
        if x3 < 0 then
          some ((-1), s)
        else
          if x3 ≤ (nI 1) then
            if x3 = 0 then
              bP (fX10_shown 0 (x1 / (nI 10)) (x1 - x1 / (nI 10) * (nI 10)) x2 s) fun r4 s5 =>
              some (r4, s5)
            else
              bP (fX10_gripOf 0 (x1 / (nI 10)) (x1 - x1 / (nI 10) * (nI 10)) x2 s) fun r2 s3 =>
              some (r2, s3)
          else
            some ((-1), s)

set_option maxRecDepth 20000 in
theorem tX10_shows {ρ : mRo} {d : Nat} {P : mPo} {V : mS → List mE} (hV : mView LC V)  {x1 : Int32} {x2 : Int32} {x3 : Int32} {s : mS} {res : (Int32 × mS)} (hf : fX10_shows x1 x2 x3 s = some res) (hP : P (some (.int res.1)) (V res.2)) : mC ρ (d + 6) 71 [.ref qT, .int x1, .int x2, .int x3] (V s) P := by
  refine ⟨_, rfl, Nat.le_of_ble_eq_true rfl, by decide, ?_⟩
  show mG ρ (mC ρ (d + 5)) 10 4 cX10_shows (some .int) P 0 [(0, .ref qT), (1, .int x1), (2, .int x2), (3, .int x3)] [] (V s)
  unfold fX10_shows at hf
  refine e_aload_n 0 dX10_shows_0 rfl rfl ?_
  refine e_iload_n 1 dX10_shows_1 rfl rfl ?_
  obtain ⟨r1, hg, hf⟩ := bO_some hf
  refine e_callV (as := [.int x1]) (v := (some (.int r1))) (s' := s) hV dX10_shows_2 (Or.inl rfl) rfl rfl rfl rfl (Nat.le_of_ble_eq_true rfl) lc_T rfl rfl (fun Q hQ => tX10_isPair (d := (d + 3)) hV  hg hQ) ?_
  refine e_if_eq 26 dX10_shows_5 (by decide) hf (fun hf => ?_) (fun hf => ?_)
  · refine e_iconst (w := (-1)) dX10_shows_26 (by decide) ?_
    obtain rfl := Option.some.inj hf
    exact e_iret dX10_shows_27 trivial hP
  · refine e_iload_n 2 dX10_shows_8 rfl rfl ?_
    refine e_if_lt 26 dX10_shows_9 (by decide) hf (fun hf => ?_) (fun hf => ?_)
    · refine e_iconst (w := (-1)) dX10_shows_26 (by decide) ?_
      obtain rfl := Option.some.inj hf
      exact e_iret dX10_shows_27 trivial hP
    · refine e_iload_n 2 dX10_shows_12 rfl rfl ?_
      refine e_iconst (w := (nI 3)) dX10_shows_13 (by decide) ?_
      refine e_icmp_ge 26 dX10_shows_14 (by decide) hf (fun hf => ?_) (fun hf => ?_)
      · refine e_iconst (w := (-1)) dX10_shows_26 (by decide) ?_
        obtain rfl := Option.some.inj hf
        exact e_iret dX10_shows_27 trivial hP
      · refine e_iload_n 3 dX10_shows_17 rfl rfl ?_
        refine e_if_lt 26 dX10_shows_18 (by decide) hf (fun hf => ?_) (fun hf => ?_)
        · refine e_iconst (w := (-1)) dX10_shows_26 (by decide) ?_
          obtain rfl := Option.some.inj hf
          exact e_iret dX10_shows_27 trivial hP
        · refine e_iload_n 3 dX10_shows_21 rfl rfl ?_
          refine e_iconst (w := (nI 1)) dX10_shows_22 (by decide) ?_
          refine e_icmp_le 28 dX10_shows_23 (by decide) hf (fun hf => ?_) (fun hf => ?_)
          · refine e_iload_n 3 dX10_shows_28 rfl rfl ?_
            refine e_if_ne 52 dX10_shows_29 (by decide) hf (fun hf => ?_) (fun hf => ?_)
            · refine e_aload_n 0 dX10_shows_52 rfl rfl ?_
              refine e_aload_n 0 dX10_shows_53 rfl rfl ?_
              refine e_getr hV dX10_shows_54 rfl lc_T rfl ?_
              refine e_iload_n 1 dX10_shows_57 rfl rfl ?_
              refine e_bipush (w := (nI 10)) dX10_shows_58 (by decide) ?_
              refine e_idiv dX10_shows_60 (by decide) ?_
              refine e_iload_n 1 dX10_shows_61 rfl rfl ?_
              refine e_bipush (w := (nI 10)) dX10_shows_62 (by decide) ?_
              refine e_irem dX10_shows_64 (by decide) ?_
              refine e_iload_n 2 dX10_shows_65 rfl rfl ?_
              obtain ⟨r2, s3, hg, hf⟩ := bP_some hf
              refine e_callV (as := [.ref (qM 0), .int (x1 / (nI 10)), .int (x1 - x1 / (nI 10) * (nI 10)), .int x2]) (v := (some (.int r2))) (s' := s3) hV dX10_shows_66 (Or.inl rfl) rfl rfl rfl rfl (Nat.le_of_ble_eq_true rfl) lc_T rfl rfl (fun Q hQ => tX10_gripOf (d := (d + 1)) hV (by decide) hg hQ) ?_
              obtain rfl := Option.some.inj hf
              exact e_iret dX10_shows_69 trivial hP
            · refine e_aload_n 0 dX10_shows_32 rfl rfl ?_
              refine e_aload_n 0 dX10_shows_33 rfl rfl ?_
              refine e_getr hV dX10_shows_34 rfl lc_T rfl ?_
              refine e_iload_n 1 dX10_shows_37 rfl rfl ?_
              refine e_bipush (w := (nI 10)) dX10_shows_38 (by decide) ?_
              refine e_idiv dX10_shows_40 (by decide) ?_
              refine e_iload_n 1 dX10_shows_41 rfl rfl ?_
              refine e_bipush (w := (nI 10)) dX10_shows_42 (by decide) ?_
              refine e_irem dX10_shows_44 (by decide) ?_
              refine e_iload_n 2 dX10_shows_45 rfl rfl ?_
              obtain ⟨r4, s5, hg, hf⟩ := bP_some hf
              refine e_callV (as := [.ref (qM 0), .int (x1 / (nI 10)), .int (x1 - x1 / (nI 10) * (nI 10)), .int x2]) (v := (some (.int r4))) (s' := s5) hV dX10_shows_46 (Or.inl rfl) rfl rfl rfl rfl (Nat.le_of_ble_eq_true rfl) lc_T rfl rfl (fun Q hQ => tX10_shown (d := d) hV (by decide) hg hQ) ?_
              refine e_goto 69 dX10_shows_49 (by decide) ?_
              obtain rfl := Option.some.inj hf
              exact e_iret dX10_shows_69 trivial hP
          · refine e_iconst (w := (-1)) dX10_shows_26 (by decide) ?_
            obtain rfl := Option.some.inj hf
            exact e_iret dX10_shows_27 trivial hP

theorem dX10_rowRefusal_0 : decode cX10_rowRefusal 0 = .ok (.iload_n 1, 1) := by decide +kernel
theorem dX10_rowRefusal_1 : decode cX10_rowRefusal 1 = .ok (.invokestatic 99, 3) := by decide +kernel
theorem dX10_rowRefusal_4 : decode cX10_rowRefusal 4 = .ok (.ifCond .ne 5, 3) := by decide +kernel
theorem dX10_rowRefusal_7 : decode cX10_rowRefusal 7 = .ok (.iconst (-1), 1) := by decide +kernel
theorem dX10_rowRefusal_8 : decode cX10_rowRefusal 8 = .ok (.ireturn, 1) := by decide +kernel
theorem dX10_rowRefusal_9 : decode cX10_rowRefusal 9 = .ok (.aload_n 0, 1) := by decide +kernel
theorem dX10_rowRefusal_10 : decode cX10_rowRefusal 10 = .ok (.getfield 42, 3) := by decide +kernel
theorem dX10_rowRefusal_13 : decode cX10_rowRefusal 13 = .ok (.iload_n 1, 1) := by decide +kernel
theorem dX10_rowRefusal_14 : decode cX10_rowRefusal 14 = .ok (.aaload, 1) := by decide +kernel
theorem dX10_rowRefusal_15 : decode cX10_rowRefusal 15 = .ok (.invokevirtual 103, 3) := by decide +kernel
theorem dX10_rowRefusal_18 : decode cX10_rowRefusal 18 = .ok (.ifCond .eq 6, 3) := by decide +kernel
theorem dX10_rowRefusal_21 : decode cX10_rowRefusal 21 = .ok (.bipush (-11), 2) := by decide +kernel
theorem dX10_rowRefusal_23 : decode cX10_rowRefusal 23 = .ok (.ireturn, 1) := by decide +kernel
theorem dX10_rowRefusal_24 : decode cX10_rowRefusal 24 = .ok (.aload_n 0, 1) := by decide +kernel
theorem dX10_rowRefusal_25 : decode cX10_rowRefusal 25 = .ok (.getfield 42, 3) := by decide +kernel
theorem dX10_rowRefusal_28 : decode cX10_rowRefusal 28 = .ok (.iload_n 1, 1) := by decide +kernel
theorem dX10_rowRefusal_29 : decode cX10_rowRefusal 29 = .ok (.aaload, 1) := by decide +kernel
theorem dX10_rowRefusal_30 : decode cX10_rowRefusal 30 = .ok (.iload_n 2, 1) := by decide +kernel
theorem dX10_rowRefusal_31 : decode cX10_rowRefusal 31 = .ok (.invokevirtual 106, 3) := by decide +kernel
theorem dX10_rowRefusal_34 : decode cX10_rowRefusal 34 = .ok (.ifCond .eq 7, 3) := by decide +kernel
theorem dX10_rowRefusal_37 : decode cX10_rowRefusal 37 = .ok (.iconst 0, 1) := by decide +kernel
theorem dX10_rowRefusal_38 : decode cX10_rowRefusal 38 = .ok (.goto 5, 3) := by decide +kernel
theorem dX10_rowRefusal_41 : decode cX10_rowRefusal 41 = .ok (.bipush (-12), 2) := by decide +kernel
theorem dX10_rowRefusal_43 : decode cX10_rowRefusal 43 = .ok (.ireturn, 1) := by decide +kernel
def fX10_rowRefusal (x1 : Int32) (x2 : Int32) (s : mS) : Option Int32 :=
  bO (fX10_isShelf x1 s) fun r1 =>
  if r1 = 0 then
    some (-1)
  else
    ldS 6 x1 fun j2 =>
    bO (fX7_isEmpty j2 s) fun r3 =>
    if r3 = 0 then
      ldS 6 x1 fun j4 =>
      bO (fX7_isRowOf j4 x2 s) fun r5 =>
      if r5 = 0 then
        some (-12)
      else
        some (nI 0)
    else
      some (-11)

set_option maxRecDepth 20000 in
theorem tX10_rowRefusal {ρ : mRo} {d : Nat} {P : mPo} {V : mS → List mE} (hV : mView LC V)  {x1 : Int32} {x2 : Int32} {s : mS} {res : Int32} (hf : fX10_rowRefusal x1 x2 s = some res) (hP : P (some (.int res)) (V s)) : mC ρ (d + 2) 112 [.ref qT, .int x1, .int x2] (V s) P := by
  refine ⟨_, rfl, Nat.le_of_ble_eq_true rfl, by decide, ?_⟩
  show mG ρ (mC ρ (d + 1)) 10 3 cX10_rowRefusal (some .int) P 0 [(0, .ref qT), (1, .int x1), (2, .int x2)] [] (V s)
  unfold fX10_rowRefusal at hf
  refine e_iload_n 1 dX10_rowRefusal_0 rfl rfl ?_
  obtain ⟨r1, hg, hf⟩ := bO_some hf
  refine e_callS (as := [.int x1]) (v := (some (.int r1))) (s' := s) dX10_rowRefusal_1 rfl rfl rfl rfl rfl (Nat.le_of_ble_eq_true rfl) (fun Q hQ => tX10_isShelf (d := d) hV  hg hQ) ?_
  refine e_if_ne 9 dX10_rowRefusal_4 (by decide) hf (fun hf => ?_) (fun hf => ?_)
  · refine e_aload_n 0 dX10_rowRefusal_9 rfl rfl ?_
    refine e_getr hV dX10_rowRefusal_10 rfl lc_T rfl ?_
    refine e_iload_n 1 dX10_rowRefusal_13 rfl rfl ?_
    refine e_aald hV dX10_rowRefusal_14 lc_T_shelves rfl lc_T_shelves_at hf (fun j2 hj2 hf => ?_)
    obtain ⟨r3, hg, hf⟩ := bO_some hf
    refine e_callV (as := []) (v := (some (.int r3))) (s' := s) hV dX10_rowRefusal_15 (Or.inl rfl) rfl rfl rfl rfl (Nat.le_of_ble_eq_true rfl) (lc_S hj2) rfl rfl (fun Q hQ => tX7_isEmpty (d := d) hV hj2 hg hQ) ?_
    refine e_if_eq 24 dX10_rowRefusal_18 (by decide) hf (fun hf => ?_) (fun hf => ?_)
    · refine e_aload_n 0 dX10_rowRefusal_24 rfl rfl ?_
      refine e_getr hV dX10_rowRefusal_25 rfl lc_T rfl ?_
      refine e_iload_n 1 dX10_rowRefusal_28 rfl rfl ?_
      refine e_aald hV dX10_rowRefusal_29 lc_T_shelves rfl lc_T_shelves_at hf (fun j4 hj4 hf => ?_)
      refine e_iload_n 2 dX10_rowRefusal_30 rfl rfl ?_
      obtain ⟨r5, hg, hf⟩ := bO_some hf
      refine e_callV (as := [.int x2]) (v := (some (.int r5))) (s' := s) hV dX10_rowRefusal_31 (Or.inl rfl) rfl rfl rfl rfl (Nat.le_of_ble_eq_true rfl) (lc_S hj4) rfl rfl (fun Q hQ => tX7_isRowOf (d := d) hV hj4 hg hQ) ?_
      refine e_if_eq 41 dX10_rowRefusal_34 (by decide) hf (fun hf => ?_) (fun hf => ?_)
      · refine e_bipush (w := (-12)) dX10_rowRefusal_41 (by decide) ?_
        obtain rfl := Option.some.inj hf
        exact e_iret dX10_rowRefusal_43 trivial hP
      · refine e_iconst (w := (nI 0)) dX10_rowRefusal_37 (by decide) ?_
        refine e_goto 43 dX10_rowRefusal_38 (by decide) ?_
        obtain rfl := Option.some.inj hf
        exact e_iret dX10_rowRefusal_43 trivial hP
    · refine e_bipush (w := (-11)) dX10_rowRefusal_21 (by decide) ?_
      obtain rfl := Option.some.inj hf
      exact e_iret dX10_rowRefusal_23 trivial hP
  · refine e_iconst (w := (-1)) dX10_rowRefusal_7 (by decide) ?_
    obtain rfl := Option.some.inj hf
    exact e_iret dX10_rowRefusal_8 trivial hP

theorem dX10_pass_0 : decode cX10_pass 0 = .ok (.iconst 0, 1) := by decide +kernel
theorem dX10_pass_1 : decode cX10_pass 1 = .ok (.istore 4, 2) := by decide +kernel
theorem dX10_pass_3 : decode cX10_pass 3 = .ok (.iload 4, 2) := by decide +kernel
theorem dX10_pass_5 : decode cX10_pass 5 = .ok (.iconst 3, 1) := by decide +kernel
theorem dX10_pass_6 : decode cX10_pass 6 = .ok (.if_icmp .ge 44, 3) := by decide +kernel
theorem dX10_pass_9 : decode cX10_pass 9 = .ok (.aload_n 1, 1) := by decide +kernel
theorem dX10_pass_10 : decode cX10_pass 10 = .ok (.iload_n 3, 1) := by decide +kernel
theorem dX10_pass_11 : decode cX10_pass 11 = .ok (.iload 4, 2) := by decide +kernel
theorem dX10_pass_13 : decode cX10_pass 13 = .ok (.invokevirtual 187, 3) := by decide +kernel
theorem dX10_pass_16 : decode cX10_pass 16 = .ok (.aload_n 0, 1) := by decide +kernel
theorem dX10_pass_17 : decode cX10_pass 17 = .ok (.getfield 22, 3) := by decide +kernel
theorem dX10_pass_20 : decode cX10_pass 20 = .ok (.iload_n 2, 1) := by decide +kernel
theorem dX10_pass_21 : decode cX10_pass 21 = .ok (.iload 4, 2) := by decide +kernel
theorem dX10_pass_23 : decode cX10_pass 23 = .ok (.invokevirtual 223, 3) := by decide +kernel
theorem dX10_pass_26 : decode cX10_pass 26 = .ok (.invokestatic 226, 3) := by decide +kernel
theorem dX10_pass_29 : decode cX10_pass 29 = .ok (.istore 5, 2) := by decide +kernel
theorem dX10_pass_31 : decode cX10_pass 31 = .ok (.aload_n 1, 1) := by decide +kernel
theorem dX10_pass_32 : decode cX10_pass 32 = .ok (.getfield 404, 3) := by decide +kernel
theorem dX10_pass_35 : decode cX10_pass 35 = .ok (.iconst 3, 1) := by decide +kernel
theorem dX10_pass_36 : decode cX10_pass 36 = .ok (.iload_n 3, 1) := by decide +kernel
theorem dX10_pass_37 : decode cX10_pass 37 = .ok (.imul, 1) := by decide +kernel
theorem dX10_pass_38 : decode cX10_pass 38 = .ok (.iload 4, 2) := by decide +kernel
theorem dX10_pass_40 : decode cX10_pass 40 = .ok (.iadd, 1) := by decide +kernel
theorem dX10_pass_41 : decode cX10_pass 41 = .ok (.iload 5, 2) := by decide +kernel
theorem dX10_pass_43 : decode cX10_pass 43 = .ok (.iastore, 1) := by decide +kernel
theorem dX10_pass_44 : decode cX10_pass 44 = .ok (.iinc 4 1, 3) := by decide +kernel
theorem dX10_pass_47 : decode cX10_pass 47 = .ok (.goto (-44), 3) := by decide +kernel
theorem dX10_pass_50 : decode cX10_pass 50 = .ok (.aload_n 1, 1) := by decide +kernel
theorem dX10_pass_51 : decode cX10_pass 51 = .ok (.getfield 184, 3) := by decide +kernel
theorem dX10_pass_54 : decode cX10_pass 54 = .ok (.iload_n 3, 1) := by decide +kernel
theorem dX10_pass_55 : decode cX10_pass 55 = .ok (.aload_n 1, 1) := by decide +kernel
theorem dX10_pass_56 : decode cX10_pass 56 = .ok (.getfield 184, 3) := by decide +kernel
theorem dX10_pass_59 : decode cX10_pass 59 = .ok (.iload_n 3, 1) := by decide +kernel
theorem dX10_pass_60 : decode cX10_pass 60 = .ok (.iaload, 1) := by decide +kernel
theorem dX10_pass_61 : decode cX10_pass 61 = .ok (.iconst 1, 1) := by decide +kernel
theorem dX10_pass_62 : decode cX10_pass 62 = .ok (.iadd, 1) := by decide +kernel
theorem dX10_pass_63 : decode cX10_pass 63 = .ok (.bipush 99, 2) := by decide +kernel
theorem dX10_pass_65 : decode cX10_pass 65 = .ok (.invokestatic 435, 3) := by decide +kernel
theorem dX10_pass_68 : decode cX10_pass 68 = .ok (.iastore, 1) := by decide +kernel
theorem dX10_pass_69 : decode cX10_pass 69 = .ok (.return_, 1) := by decide +kernel
def fX10_pass_b3 : Nat → Nat → Int32 → Int32 → Int32 → mS → Option mS
  | 0, _, _, _, _, _ => none
  | k + 1, k1, y2, y3, y4, s =>
    if (nI 3) ≤ y4 then
      ldA s (aM_ages k1) 8 y3 fun v2 =>
      stA s (aM_ages k1) 8 y3 (if (nI 99) < (v2 + (nI 1)) then (nI 99) else (v2 + (nI 1))) fun s3 =>
      some s3
    else
      bO (fX6_pull k1 y3 y4 s) fun r4 =>
      bO (fX9_hand 0 y2 y4 s) fun r5 =>
      bO (fX2_nearer r4 r5 s) fun r6 =>
      bnd r6 fun v7 =>
      stA s (aM_pulls k1) 24 (((nI 3) * y3) + y4) v7 fun s8 =>
      bnd (y4 + (nI 1)) fun v9 =>
      fX10_pass_b3 k k1 y2 y3 v9 s8

def fX10_pass (k1 : Nat) (x2 : Int32) (x3 : Int32) (s : mS) : Option mS :=
  bnd (nI 0) fun v1 =>
  fX10_pass_b3 mFu k1 x2 x3 v1 s

set_option maxRecDepth 20000 in
theorem wX10_pass_b3 {ρ : mRo} {d : Nat} {P : mPo} {V : mS → List mE} (hV : mView LC V)  {res : mS} (hP : P none (V res)) : ∀ (k : Nat) (k1 : Nat) (hk1 : k1 < 3) (y2 : Int32) (y3 : Int32) (y4 : Int32) (s : mS), fX10_pass_b3 k k1 y2 y3 y4 s = some res → mG ρ (mC ρ (d + 1)) 10 6 cX10_pass none P 3 [(0, .ref qT), (1, .ref (qM k1)), (2, .int y2), (3, .int y3), (4, .int y4)] [] (V s) := by
  intro k
  induction k with
  | zero => intro k1 hk1 y2 y3 y4 s hf; rw [fX10_pass_b3] at hf; cases hf
  | succ k ih =>
    intro k1 hk1 y2 y3 y4 s hf
    rw [fX10_pass_b3] at hf
    refine e_iload 4 dX10_pass_3 rfl ?_
    refine e_iconst (w := (nI 3)) dX10_pass_5 (by decide) ?_
    refine e_icmp_ge 50 dX10_pass_6 (by decide) hf (fun hf => ?_) (fun hf => ?_)
    · refine e_aload_n 1 dX10_pass_50 rfl rfl ?_
      refine e_getr hV dX10_pass_51 rfl (lc_M hk1) rfl ?_
      refine e_iload_n 3 dX10_pass_54 rfl rfl ?_
      refine e_aload_n 1 dX10_pass_55 rfl rfl ?_
      refine e_getr hV dX10_pass_56 rfl (lc_M hk1) rfl ?_
      refine e_iload_n 3 dX10_pass_59 rfl rfl ?_
      refine e_iald hV dX10_pass_60 (lc_M_ages hk1) hf (fun v2 hf => ?_)
      refine e_iconst (w := (nI 1)) dX10_pass_61 (by decide) ?_
      refine e_iadd dX10_pass_62 ?_
      refine e_bipush (w := (nI 99)) dX10_pass_63 (by decide) ?_
      refine e_min dX10_pass_65 rfl (Nat.le_of_ble_eq_true rfl) ?_
      refine e_iast hV dX10_pass_68 (lc_M_ages hk1) hf (fun s3 hf => ?_)
      obtain rfl := Option.some.inj hf
      exact e_ret dX10_pass_69 rfl hP
    · refine e_aload_n 1 dX10_pass_9 rfl rfl ?_
      refine e_iload_n 3 dX10_pass_10 rfl rfl ?_
      refine e_iload 4 dX10_pass_11 rfl ?_
      obtain ⟨r4, hg, hf⟩ := bO_some hf
      refine e_callV (as := [.int y3, .int y4]) (v := (some (.int r4))) (s' := s) hV dX10_pass_13 (Or.inl rfl) rfl rfl rfl rfl (Nat.le_of_ble_eq_true rfl) (lc_M hk1) rfl rfl (fun Q hQ => tX6_pull (d := d) hV hk1 hg hQ) ?_
      refine e_aload_n 0 dX10_pass_16 rfl rfl ?_
      refine e_getr hV dX10_pass_17 rfl lc_T rfl ?_
      refine e_iload_n 2 dX10_pass_20 rfl rfl ?_
      refine e_iload 4 dX10_pass_21 rfl ?_
      obtain ⟨r5, hg, hf⟩ := bO_some hf
      refine e_callV (as := [.int y2, .int y4]) (v := (some (.int r5))) (s' := s) hV dX10_pass_23 (Or.inl rfl) rfl rfl rfl rfl (Nat.le_of_ble_eq_true rfl) (lc_W (by decide)) rfl rfl (fun Q hQ => tX9_hand (d := d) hV (by decide) hg hQ) ?_
      obtain ⟨r6, hg, hf⟩ := bO_some hf
      refine e_callS (as := [.int r4, .int r5]) (v := (some (.int r6))) (s' := s) dX10_pass_26 rfl rfl rfl rfl rfl (Nat.le_of_ble_eq_true rfl) (fun Q hQ => tX2_nearer (d := d) hV  hg hQ) ?_
      refine e_istore dX10_pass_29 (by decide) hf (fun v7 hf => ?_)
      refine e_aload_n 2 dX10_pass_31 rfl rfl ?_
      refine e_getr hV dX10_pass_32 rfl (lc_M hk1) rfl ?_
      refine e_iconst (w := (nI 3)) dX10_pass_35 (by decide) ?_
      refine e_iload_n 4 dX10_pass_36 rfl rfl ?_
      refine e_imul dX10_pass_37 ?_
      refine e_iload 5 dX10_pass_38 rfl ?_
      refine e_iadd dX10_pass_40 ?_
      refine e_iload 0 dX10_pass_41 rfl ?_
      refine e_iast hV dX10_pass_43 (lc_M_pulls hk1) hf (fun s8 hf => ?_)
      refine e_iinc 5 dX10_pass_44 (by decide) rfl hf (fun v9 hf => ?_)
      refine e_goto 3 dX10_pass_47 (by decide) ?_
      refine e_pick [2, 3, 4, 5, 0] rfl ?_
      exact ih k1 hk1 y2 y3 v9 s8 hf
set_option maxRecDepth 20000 in
theorem tX10_pass {ρ : mRo} {d : Nat} {P : mPo} {V : mS → List mE} (hV : mView LC V)  {k1 : Nat} (hk1 : k1 < 3) {x2 : Int32} {x3 : Int32} {s : mS} {res : mS} (hf : fX10_pass k1 x2 x3 s = some res) (hP : P none (V res)) : mC ρ (d + 2) 122 [.ref qT, .ref (qM k1), .int x2, .int x3] (V s) P := by
  refine ⟨_, rfl, Nat.le_of_ble_eq_true rfl, by decide, ?_⟩
  show mG ρ (mC ρ (d + 1)) 10 6 cX10_pass none P 0 [(0, .ref qT), (1, .ref (qM k1)), (2, .int x2), (3, .int x3)] [] (V s)
  unfold fX10_pass at hf
  refine e_iconst (w := (nI 0)) dX10_pass_0 (by decide) ?_
  refine e_istore dX10_pass_1 (by decide) hf (fun v1 hf => ?_)
  refine e_pick [1, 2, 3, 4, 0] rfl ?_
  exact wX10_pass_b3 hV hP mFu k1 hk1 x2 x3 v1 s hf

theorem dX10_dayHas_0 : decode cX10_dayHas 0 = .ok (.aload_n 1, 1) := by decide +kernel
theorem dX10_dayHas_1 : decode cX10_dayHas 1 = .ok (.iconst 2, 1) := by decide +kernel
theorem dX10_dayHas_2 : decode cX10_dayHas 2 = .ok (.iload_n 2, 1) := by decide +kernel
theorem dX10_dayHas_3 : decode cX10_dayHas 3 = .ok (.imul, 1) := by decide +kernel
theorem dX10_dayHas_4 : decode cX10_dayHas 4 = .ok (.iconst 2, 1) := by decide +kernel
theorem dX10_dayHas_5 : decode cX10_dayHas 5 = .ok (.invokevirtual 383, 3) := by decide +kernel
theorem dX10_dayHas_8 : decode cX10_dayHas 8 = .ok (.ifCond .eq 47, 3) := by decide +kernel
theorem dX10_dayHas_11 : decode cX10_dayHas 11 = .ok (.aload_n 0, 1) := by decide +kernel
theorem dX10_dayHas_12 : decode cX10_dayHas 12 = .ok (.getfield 22, 3) := by decide +kernel
theorem dX10_dayHas_15 : decode cX10_dayHas 15 = .ok (.aload_n 1, 1) := by decide +kernel
theorem dX10_dayHas_16 : decode cX10_dayHas 16 = .ok (.getfield 117, 3) := by decide +kernel
theorem dX10_dayHas_19 : decode cX10_dayHas 19 = .ok (.iconst 2, 1) := by decide +kernel
theorem dX10_dayHas_20 : decode cX10_dayHas 20 = .ok (.iload_n 2, 1) := by decide +kernel
theorem dX10_dayHas_21 : decode cX10_dayHas 21 = .ok (.imul, 1) := by decide +kernel
theorem dX10_dayHas_22 : decode cX10_dayHas 22 = .ok (.laload, 1) := by decide +kernel
theorem dX10_dayHas_23 : decode cX10_dayHas 23 = .ok (.l2i, 1) := by decide +kernel
theorem dX10_dayHas_24 : decode cX10_dayHas 24 = .ok (.invokevirtual 208, 3) := by decide +kernel
theorem dX10_dayHas_27 : decode cX10_dayHas 27 = .ok (.ifCond .eq 28, 3) := by decide +kernel
theorem dX10_dayHas_30 : decode cX10_dayHas 30 = .ok (.aload_n 0, 1) := by decide +kernel
theorem dX10_dayHas_31 : decode cX10_dayHas 31 = .ok (.getfield 10, 3) := by decide +kernel
theorem dX10_dayHas_34 : decode cX10_dayHas 34 = .ok (.aload_n 1, 1) := by decide +kernel
theorem dX10_dayHas_35 : decode cX10_dayHas 35 = .ok (.getfield 117, 3) := by decide +kernel
theorem dX10_dayHas_38 : decode cX10_dayHas 38 = .ok (.iconst 2, 1) := by decide +kernel
theorem dX10_dayHas_39 : decode cX10_dayHas 39 = .ok (.iload_n 2, 1) := by decide +kernel
theorem dX10_dayHas_40 : decode cX10_dayHas 40 = .ok (.imul, 1) := by decide +kernel
theorem dX10_dayHas_41 : decode cX10_dayHas 41 = .ok (.iconst 1, 1) := by decide +kernel
theorem dX10_dayHas_42 : decode cX10_dayHas 42 = .ok (.iadd, 1) := by decide +kernel
theorem dX10_dayHas_43 : decode cX10_dayHas 43 = .ok (.laload, 1) := by decide +kernel
theorem dX10_dayHas_44 : decode cX10_dayHas 44 = .ok (.l2i, 1) := by decide +kernel
theorem dX10_dayHas_45 : decode cX10_dayHas 45 = .ok (.invokevirtual 174, 3) := by decide +kernel
theorem dX10_dayHas_48 : decode cX10_dayHas 48 = .ok (.ifCond .eq 7, 3) := by decide +kernel
theorem dX10_dayHas_51 : decode cX10_dayHas 51 = .ok (.iconst 1, 1) := by decide +kernel
theorem dX10_dayHas_52 : decode cX10_dayHas 52 = .ok (.goto 4, 3) := by decide +kernel
theorem dX10_dayHas_55 : decode cX10_dayHas 55 = .ok (.iconst 0, 1) := by decide +kernel
theorem dX10_dayHas_56 : decode cX10_dayHas 56 = .ok (.ireturn, 1) := by decide +kernel
def fX10_dayHas (k1 : Nat) (x2 : Int32) (s : mS) : Option Int32 :=
  bO (fX7_hasSpan k1 ((nI 2) * x2) (nI 2) s) fun r1 =>
  if r1 = 0 then
    some (nI 0)
  else
    ldL s (lS_cells k1) 60 ((nI 2) * x2) fun v2 =>
    bO (fX9_has 0 (Int64.toInt32 v2) s) fun r3 =>
    if r3 = 0 then
      some (nI 0)
    else
      ldL s (lS_cells k1) 60 (((nI 2) * x2) + (nI 1)) fun v4 =>
      bO (fX6_has 0 (Int64.toInt32 v4) s) fun r5 =>
      if r5 = 0 then
        some (nI 0)
      else
        some (nI 1)

set_option maxRecDepth 20000 in
theorem tX10_dayHas {ρ : mRo} {d : Nat} {P : mPo} {V : mS → List mE} (hV : mView LC V)  {k1 : Nat} (hk1 : k1 < 6) {x2 : Int32} {s : mS} {res : Int32} (hf : fX10_dayHas k1 x2 s = some res) (hP : P (some (.int res)) (V s)) : mC ρ (d + 2) 123 [.ref qT, .ref (qS k1), .int x2] (V s) P := by
  refine ⟨_, rfl, Nat.le_of_ble_eq_true rfl, by decide, ?_⟩
  show mG ρ (mC ρ (d + 1)) 10 3 cX10_dayHas (some .boolean) P 0 [(0, .ref qT), (1, .ref (qS k1)), (2, .int x2)] [] (V s)
  unfold fX10_dayHas at hf
  refine e_aload_n 1 dX10_dayHas_0 rfl rfl ?_
  refine e_iconst (w := (nI 2)) dX10_dayHas_1 (by decide) ?_
  refine e_iload_n 2 dX10_dayHas_2 rfl rfl ?_
  refine e_imul dX10_dayHas_3 ?_
  refine e_iconst (w := (nI 2)) dX10_dayHas_4 (by decide) ?_
  obtain ⟨r1, hg, hf⟩ := bO_some hf
  refine e_callV (as := [.int ((nI 2) * x2), .int (nI 2)]) (v := (some (.int r1))) (s' := s) hV dX10_dayHas_5 (Or.inl rfl) rfl rfl rfl rfl (Nat.le_of_ble_eq_true rfl) (lc_S hk1) rfl rfl (fun Q hQ => tX7_hasSpan (d := d) hV hk1 hg hQ) ?_
  refine e_if_eq 55 dX10_dayHas_8 (by decide) hf (fun hf => ?_) (fun hf => ?_)
  · refine e_iconst (w := (nI 0)) dX10_dayHas_55 (by decide) ?_
    obtain rfl := Option.some.inj hf
    exact e_iret dX10_dayHas_56 (Or.inl rfl) hP
  · refine e_aload_n 0 dX10_dayHas_11 rfl rfl ?_
    refine e_getr hV dX10_dayHas_12 rfl lc_T rfl ?_
    refine e_aload_n 1 dX10_dayHas_15 rfl rfl ?_
    refine e_getr hV dX10_dayHas_16 rfl (lc_S hk1) rfl ?_
    refine e_iconst (w := (nI 2)) dX10_dayHas_19 (by decide) ?_
    refine e_iload_n 2 dX10_dayHas_20 rfl rfl ?_
    refine e_imul dX10_dayHas_21 ?_
    refine e_lald hV dX10_dayHas_22 (lc_S_cells hk1) hf (fun v2 hf => ?_)
    refine e_l2i dX10_dayHas_23 ?_
    obtain ⟨r3, hg, hf⟩ := bO_some hf
    refine e_callV (as := [.int (Int64.toInt32 v2)]) (v := (some (.int r3))) (s' := s) hV dX10_dayHas_24 (Or.inl rfl) rfl rfl rfl rfl (Nat.le_of_ble_eq_true rfl) (lc_W (by decide)) rfl rfl (fun Q hQ => tX9_has (d := d) hV (by decide) hg hQ) ?_
    refine e_if_eq 55 dX10_dayHas_27 (by decide) hf (fun hf => ?_) (fun hf => ?_)
    · refine e_iconst (w := (nI 0)) dX10_dayHas_55 (by decide) ?_
      obtain rfl := Option.some.inj hf
      exact e_iret dX10_dayHas_56 (Or.inl rfl) hP
    · refine e_aload_n 0 dX10_dayHas_30 rfl rfl ?_
      refine e_getr hV dX10_dayHas_31 rfl lc_T rfl ?_
      refine e_aload_n 1 dX10_dayHas_34 rfl rfl ?_
      refine e_getr hV dX10_dayHas_35 rfl (lc_S hk1) rfl ?_
      refine e_iconst (w := (nI 2)) dX10_dayHas_38 (by decide) ?_
      refine e_iload_n 2 dX10_dayHas_39 rfl rfl ?_
      refine e_imul dX10_dayHas_40 ?_
      refine e_iconst (w := (nI 1)) dX10_dayHas_41 (by decide) ?_
      refine e_iadd dX10_dayHas_42 ?_
      refine e_lald hV dX10_dayHas_43 (lc_S_cells hk1) hf (fun v4 hf => ?_)
      refine e_l2i dX10_dayHas_44 ?_
      obtain ⟨r5, hg, hf⟩ := bO_some hf
      refine e_callV (as := [.int (Int64.toInt32 v4)]) (v := (some (.int r5))) (s' := s) hV dX10_dayHas_45 (Or.inl rfl) rfl rfl rfl rfl (Nat.le_of_ble_eq_true rfl) (lc_M (by decide)) rfl rfl (fun Q hQ => tX6_has (d := d) hV (by decide) hg hQ) ?_
      refine e_if_eq 55 dX10_dayHas_48 (by decide) hf (fun hf => ?_) (fun hf => ?_)
      · refine e_iconst (w := (nI 0)) dX10_dayHas_55 (by decide) ?_
        obtain rfl := Option.some.inj hf
        exact e_iret dX10_dayHas_56 (Or.inl rfl) hP
      · refine e_iconst (w := (nI 1)) dX10_dayHas_51 (by decide) ?_
        refine e_goto 56 dX10_dayHas_52 (by decide) ?_
        obtain rfl := Option.some.inj hf
        exact e_iret dX10_dayHas_56 (Or.inr rfl) hP

theorem dX10_thinkDay_0 : decode cX10_thinkDay 0 = .ok (.aload_n 0, 1) := by decide +kernel
theorem dX10_thinkDay_1 : decode cX10_thinkDay 1 = .ok (.getfield 16, 3) := by decide +kernel
theorem dX10_thinkDay_4 : decode cX10_thinkDay 4 = .ok (.aload_n 0, 1) := by decide +kernel
theorem dX10_thinkDay_5 : decode cX10_thinkDay 5 = .ok (.getfield 10, 3) := by decide +kernel
theorem dX10_thinkDay_8 : decode cX10_thinkDay 8 = .ok (.invokevirtual 197, 3) := by decide +kernel
theorem dX10_thinkDay_11 : decode cX10_thinkDay 11 = .ok (.iconst 0, 1) := by decide +kernel
theorem dX10_thinkDay_12 : decode cX10_thinkDay 12 = .ok (.istore_n 3, 1) := by decide +kernel
theorem dX10_thinkDay_13 : decode cX10_thinkDay 13 = .ok (.iload_n 3, 1) := by decide +kernel
theorem dX10_thinkDay_14 : decode cX10_thinkDay 14 = .ok (.iload_n 2, 1) := by decide +kernel
theorem dX10_thinkDay_15 : decode cX10_thinkDay 15 = .ok (.if_icmp .ge 46, 3) := by decide +kernel
theorem dX10_thinkDay_18 : decode cX10_thinkDay 18 = .ok (.aload_n 0, 1) := by decide +kernel
theorem dX10_thinkDay_19 : decode cX10_thinkDay 19 = .ok (.aload_n 1, 1) := by decide +kernel
theorem dX10_thinkDay_20 : decode cX10_thinkDay 20 = .ok (.iload_n 3, 1) := by decide +kernel
theorem dX10_thinkDay_21 : decode cX10_thinkDay 21 = .ok (.invokevirtual 190, 3) := by decide +kernel
theorem dX10_thinkDay_24 : decode cX10_thinkDay 24 = .ok (.ifCond .eq 37, 3) := by decide +kernel
theorem dX10_thinkDay_27 : decode cX10_thinkDay 27 = .ok (.aload_n 0, 1) := by decide +kernel
theorem dX10_thinkDay_28 : decode cX10_thinkDay 28 = .ok (.aload_n 0, 1) := by decide +kernel
theorem dX10_thinkDay_29 : decode cX10_thinkDay 29 = .ok (.getfield 16, 3) := by decide +kernel
theorem dX10_thinkDay_32 : decode cX10_thinkDay 32 = .ok (.aload_n 1, 1) := by decide +kernel
theorem dX10_thinkDay_33 : decode cX10_thinkDay 33 = .ok (.getfield 117, 3) := by decide +kernel
theorem dX10_thinkDay_36 : decode cX10_thinkDay 36 = .ok (.iconst 2, 1) := by decide +kernel
theorem dX10_thinkDay_37 : decode cX10_thinkDay 37 = .ok (.iload_n 3, 1) := by decide +kernel
theorem dX10_thinkDay_38 : decode cX10_thinkDay 38 = .ok (.imul, 1) := by decide +kernel
theorem dX10_thinkDay_39 : decode cX10_thinkDay 39 = .ok (.laload, 1) := by decide +kernel
theorem dX10_thinkDay_40 : decode cX10_thinkDay 40 = .ok (.l2i, 1) := by decide +kernel
theorem dX10_thinkDay_41 : decode cX10_thinkDay 41 = .ok (.aload_n 1, 1) := by decide +kernel
theorem dX10_thinkDay_42 : decode cX10_thinkDay 42 = .ok (.getfield 117, 3) := by decide +kernel
theorem dX10_thinkDay_45 : decode cX10_thinkDay 45 = .ok (.iconst 2, 1) := by decide +kernel
theorem dX10_thinkDay_46 : decode cX10_thinkDay 46 = .ok (.iload_n 3, 1) := by decide +kernel
theorem dX10_thinkDay_47 : decode cX10_thinkDay 47 = .ok (.imul, 1) := by decide +kernel
theorem dX10_thinkDay_48 : decode cX10_thinkDay 48 = .ok (.iconst 1, 1) := by decide +kernel
theorem dX10_thinkDay_49 : decode cX10_thinkDay 49 = .ok (.iadd, 1) := by decide +kernel
theorem dX10_thinkDay_50 : decode cX10_thinkDay 50 = .ok (.laload, 1) := by decide +kernel
theorem dX10_thinkDay_51 : decode cX10_thinkDay 51 = .ok (.l2i, 1) := by decide +kernel
theorem dX10_thinkDay_52 : decode cX10_thinkDay 52 = .ok (.invokevirtual 254, 3) := by decide +kernel
theorem dX10_thinkDay_55 : decode cX10_thinkDay 55 = .ok (.iinc 3 1, 3) := by decide +kernel
theorem dX10_thinkDay_58 : decode cX10_thinkDay 58 = .ok (.goto (-45), 3) := by decide +kernel
theorem dX10_thinkDay_61 : decode cX10_thinkDay 61 = .ok (.iload_n 3, 1) := by decide +kernel
theorem dX10_thinkDay_62 : decode cX10_thinkDay 62 = .ok (.ireturn, 1) := by decide +kernel
def fX10_thinkDay_b13 : Nat → Nat → Int32 → Int32 → mS → Option (Int32 × mS)
  | 0, _, _, _, _ => none
  | k + 1, k1, y2, y3, s =>
    if y2 ≤ y3 then
      some (y3, s)
    else
      bO (fX10_dayHas k1 y3 s) fun r3 =>
      if r3 = 0 then
        some (y3, s)
      else
        ldL s (lS_cells k1) 60 ((nI 2) * y3) fun v4 =>
        ldL s (lS_cells k1) 60 (((nI 2) * y3) + (nI 1)) fun v5 =>
        bO (fX10_pass 1 (Int64.toInt32 v4) (Int64.toInt32 v5) s) fun s6 =>
        bnd (y3 + (nI 1)) fun v7 =>
        fX10_thinkDay_b13 k k1 y2 v7 s6

def fX10_thinkDay (k1 : Nat) (x2 : Int32) (s : mS) : Option (Int32 × mS) :=
  bO (fX6_copy 1 0 s) fun s1 =>
  bnd (nI 0) fun v2 =>
  fX10_thinkDay_b13 mFu k1 x2 v2 s1

set_option maxRecDepth 20000 in
theorem wX10_thinkDay_b13 {ρ : mRo} {d : Nat} {P : mPo} {V : mS → List mE} (hV : mView LC V)  {res : (Int32 × mS)} (hP : P (some (.int res.1)) (V res.2)) : ∀ (k : Nat) (k1 : Nat) (hk1 : k1 < 6) (y2 : Int32) (y3 : Int32) (s : mS), fX10_thinkDay_b13 k k1 y2 y3 s = some res → mG ρ (mC ρ (d + 2)) 10 4 cX10_thinkDay (some .int) P 13 [(0, .ref qT), (1, .ref (qS k1)), (2, .int y2), (3, .int y3)] [] (V s) := by
  intro k
  induction k with
  | zero => intro k1 hk1 y2 y3 s hf; rw [fX10_thinkDay_b13] at hf; cases hf
  | succ k ih =>
    intro k1 hk1 y2 y3 s hf
    rw [fX10_thinkDay_b13] at hf
    refine e_iload_n 3 dX10_thinkDay_13 rfl rfl ?_
    refine e_iload_n 2 dX10_thinkDay_14 rfl rfl ?_
    refine e_icmp_ge 61 dX10_thinkDay_15 (by decide) hf (fun hf => ?_) (fun hf => ?_)
    · refine e_iload_n 3 dX10_thinkDay_61 rfl rfl ?_
      obtain rfl := Option.some.inj hf
      exact e_iret dX10_thinkDay_62 trivial hP
    · refine e_aload_n 0 dX10_thinkDay_18 rfl rfl ?_
      refine e_aload_n 1 dX10_thinkDay_19 rfl rfl ?_
      refine e_iload_n 3 dX10_thinkDay_20 rfl rfl ?_
      obtain ⟨r3, hg, hf⟩ := bO_some hf
      refine e_callV (as := [.ref (qS k1), .int y3]) (v := (some (.int r3))) (s' := s) hV dX10_thinkDay_21 (Or.inl rfl) rfl rfl rfl rfl (Nat.le_of_ble_eq_true rfl) lc_T rfl rfl (fun Q hQ => tX10_dayHas (d := d) hV hk1 hg hQ) ?_
      refine e_if_eq 61 dX10_thinkDay_24 (by decide) hf (fun hf => ?_) (fun hf => ?_)
      · refine e_iload_n 3 dX10_thinkDay_61 rfl rfl ?_
        obtain rfl := Option.some.inj hf
        exact e_iret dX10_thinkDay_62 trivial hP
      · refine e_aload_n 0 dX10_thinkDay_27 rfl rfl ?_
        refine e_aload_n 0 dX10_thinkDay_28 rfl rfl ?_
        refine e_getr hV dX10_thinkDay_29 rfl lc_T rfl ?_
        refine e_aload_n 1 dX10_thinkDay_32 rfl rfl ?_
        refine e_getr hV dX10_thinkDay_33 rfl (lc_S hk1) rfl ?_
        refine e_iconst (w := (nI 2)) dX10_thinkDay_36 (by decide) ?_
        refine e_iload_n 3 dX10_thinkDay_37 rfl rfl ?_
        refine e_imul dX10_thinkDay_38 ?_
        refine e_lald hV dX10_thinkDay_39 (lc_S_cells hk1) hf (fun v4 hf => ?_)
        refine e_l2i dX10_thinkDay_40 ?_
        refine e_aload_n 1 dX10_thinkDay_41 rfl rfl ?_
        refine e_getr hV dX10_thinkDay_42 rfl (lc_S hk1) rfl ?_
        refine e_iconst (w := (nI 2)) dX10_thinkDay_45 (by decide) ?_
        refine e_iload_n 3 dX10_thinkDay_46 rfl rfl ?_
        refine e_imul dX10_thinkDay_47 ?_
        refine e_iconst (w := (nI 1)) dX10_thinkDay_48 (by decide) ?_
        refine e_iadd dX10_thinkDay_49 ?_
        refine e_lald hV dX10_thinkDay_50 (lc_S_cells hk1) hf (fun v5 hf => ?_)
        refine e_l2i dX10_thinkDay_51 ?_
        obtain ⟨s6, hg, hf⟩ := bO_some hf
        refine e_callV (as := [.ref (qM 1), .int (Int64.toInt32 v4), .int (Int64.toInt32 v5)]) (v := none) (s' := s6) hV dX10_thinkDay_52 (Or.inl rfl) rfl rfl rfl rfl (Nat.le_of_ble_eq_true rfl) lc_T rfl rfl (fun Q hQ => tX10_pass (d := d) hV (by decide) hg hQ) ?_
        refine e_iinc 3 dX10_thinkDay_55 (by decide) rfl hf (fun v7 hf => ?_)
        refine e_goto 13 dX10_thinkDay_58 (by decide) ?_
        refine e_pick [1, 2, 3, 0] rfl ?_
        exact ih k1 hk1 y2 v7 s6 hf
set_option maxRecDepth 20000 in
theorem tX10_thinkDay {ρ : mRo} {d : Nat} {P : mPo} {V : mS → List mE} (hV : mView LC V)  {k1 : Nat} (hk1 : k1 < 6) {x2 : Int32} {s : mS} {res : (Int32 × mS)} (hf : fX10_thinkDay k1 x2 s = some res) (hP : P (some (.int res.1)) (V res.2)) : mC ρ (d + 3) 124 [.ref qT, .ref (qS k1), .int x2] (V s) P := by
  refine ⟨_, rfl, Nat.le_of_ble_eq_true rfl, by decide, ?_⟩
  show mG ρ (mC ρ (d + 2)) 10 4 cX10_thinkDay (some .int) P 0 [(0, .ref qT), (1, .ref (qS k1)), (2, .int x2)] [] (V s)
  unfold fX10_thinkDay at hf
  refine e_aload_n 0 dX10_thinkDay_0 rfl rfl ?_
  refine e_getr hV dX10_thinkDay_1 rfl lc_T rfl ?_
  refine e_aload_n 0 dX10_thinkDay_4 rfl rfl ?_
  refine e_getr hV dX10_thinkDay_5 rfl lc_T rfl ?_
  obtain ⟨s1, hg, hf⟩ := bO_some hf
  refine e_callV (as := [.ref (qM 0)]) (v := none) (s' := s1) hV dX10_thinkDay_8 (Or.inl rfl) rfl rfl rfl rfl (Nat.le_of_ble_eq_true rfl) (lc_M (by decide)) rfl rfl (fun Q hQ => tX6_copy (d := d) hV (by decide) (by decide) hg hQ) ?_
  refine e_iconst (w := (nI 0)) dX10_thinkDay_11 (by decide) ?_
  refine e_istore_n dX10_thinkDay_12 rfl (by decide) hf (fun v2 hf => ?_)
  refine e_pick [1, 2, 3, 0] rfl ?_
  exact wX10_thinkDay_b13 hV hP mFu k1 hk1 x2 v2 s1 hf

theorem dX10_later_0 : decode cX10_later 0 = .ok (.iload_n 2, 1) := by decide +kernel
theorem dX10_later_1 : decode cX10_later 1 = .ok (.ifCond .lt 31, 3) := by decide +kernel
theorem dX10_later_4 : decode cX10_later 4 = .ok (.iload_n 2, 1) := by decide +kernel
theorem dX10_later_5 : decode cX10_later 5 = .ok (.bipush 30, 2) := by decide +kernel
theorem dX10_later_7 : decode cX10_later 7 = .ok (.if_icmp .gt 25, 3) := by decide +kernel
theorem dX10_later_10 : decode cX10_later 10 = .ok (.aload_n 0, 1) := by decide +kernel
theorem dX10_later_11 : decode cX10_later 11 = .ok (.getfield 10, 3) := by decide +kernel
theorem dX10_later_14 : decode cX10_later 14 = .ok (.iload_n 3, 1) := by decide +kernel
theorem dX10_later_15 : decode cX10_later 15 = .ok (.invokevirtual 174, 3) := by decide +kernel
theorem dX10_later_18 : decode cX10_later 18 = .ok (.ifCond .eq 14, 3) := by decide +kernel
theorem dX10_later_21 : decode cX10_later 21 = .ok (.iload 4, 2) := by decide +kernel
theorem dX10_later_23 : decode cX10_later 23 = .ok (.ifCond .lt 9, 3) := by decide +kernel
theorem dX10_later_26 : decode cX10_later 26 = .ok (.iload 4, 2) := by decide +kernel
theorem dX10_later_28 : decode cX10_later 28 = .ok (.iconst 3, 1) := by decide +kernel
theorem dX10_later_29 : decode cX10_later 29 = .ok (.if_icmp .le 5, 3) := by decide +kernel
theorem dX10_later_32 : decode cX10_later 32 = .ok (.iconst (-1), 1) := by decide +kernel
theorem dX10_later_33 : decode cX10_later 33 = .ok (.ireturn, 1) := by decide +kernel
theorem dX10_later_34 : decode cX10_later 34 = .ok (.aload_n 0, 1) := by decide +kernel
theorem dX10_later_35 : decode cX10_later 35 = .ok (.iload_n 1, 1) := by decide +kernel
theorem dX10_later_36 : decode cX10_later 36 = .ok (.iconst 0, 1) := by decide +kernel
theorem dX10_later_37 : decode cX10_later 37 = .ok (.invokevirtual 177, 3) := by decide +kernel
theorem dX10_later_40 : decode cX10_later 40 = .ok (.istore 5, 2) := by decide +kernel
theorem dX10_later_42 : decode cX10_later 42 = .ok (.iload 5, 2) := by decide +kernel
theorem dX10_later_44 : decode cX10_later 44 = .ok (.ifCond .eq 6, 3) := by decide +kernel
theorem dX10_later_47 : decode cX10_later 47 = .ok (.iload 5, 2) := by decide +kernel
theorem dX10_later_49 : decode cX10_later 49 = .ok (.ireturn, 1) := by decide +kernel
theorem dX10_later_50 : decode cX10_later 50 = .ok (.aload_n 0, 1) := by decide +kernel
theorem dX10_later_51 : decode cX10_later 51 = .ok (.aload_n 0, 1) := by decide +kernel
theorem dX10_later_52 : decode cX10_later 52 = .ok (.getfield 42, 3) := by decide +kernel
theorem dX10_later_55 : decode cX10_later 55 = .ok (.iload_n 1, 1) := by decide +kernel
theorem dX10_later_56 : decode cX10_later 56 = .ok (.aaload, 1) := by decide +kernel
theorem dX10_later_57 : decode cX10_later 57 = .ok (.iload_n 2, 1) := by decide +kernel
theorem dX10_later_58 : decode cX10_later 58 = .ok (.invokevirtual 180, 3) := by decide +kernel
theorem dX10_later_61 : decode cX10_later 61 = .ok (.pop, 1) := by decide +kernel
theorem dX10_later_62 : decode cX10_later 62 = .ok (.iload 4, 2) := by decide +kernel
theorem dX10_later_64 : decode cX10_later 64 = .ok (.iconst 3, 1) := by decide +kernel
theorem dX10_later_65 : decode cX10_later 65 = .ok (.if_icmp .ne 15, 3) := by decide +kernel
theorem dX10_later_68 : decode cX10_later 68 = .ok (.aload_n 0, 1) := by decide +kernel
theorem dX10_later_69 : decode cX10_later 69 = .ok (.getfield 16, 3) := by decide +kernel
theorem dX10_later_72 : decode cX10_later 72 = .ok (.getfield 184, 3) := by decide +kernel
theorem dX10_later_75 : decode cX10_later 75 = .ok (.iload_n 3, 1) := by decide +kernel
theorem dX10_later_76 : decode cX10_later 76 = .ok (.iaload, 1) := by decide +kernel
theorem dX10_later_77 : decode cX10_later 77 = .ok (.goto 13, 3) := by decide +kernel
theorem dX10_later_80 : decode cX10_later 80 = .ok (.aload_n 0, 1) := by decide +kernel
theorem dX10_later_81 : decode cX10_later 81 = .ok (.getfield 16, 3) := by decide +kernel
theorem dX10_later_84 : decode cX10_later 84 = .ok (.iload_n 3, 1) := by decide +kernel
theorem dX10_later_85 : decode cX10_later 85 = .ok (.iload 4, 2) := by decide +kernel
theorem dX10_later_87 : decode cX10_later 87 = .ok (.invokevirtual 187, 3) := by decide +kernel
theorem dX10_later_90 : decode cX10_later 90 = .ok (.ireturn, 1) := by decide +kernel
def fX10_later (x1 : Int32) (x2 : Int32) (x3 : Int32) (x4 : Int32) (s : mS) : Option (Int32 × mS) :=
  if x2 < 0 then
    some ((-1), s)
  else
    if (nI 30) < x2 then
      some ((-1), s)
    else
      bO (fX6_has 0 x3 s) fun r1 =>
      if r1 = 0 then
        some ((-1), s)
      else
        if x4 < 0 then
          some ((-1), s)
        else
          if x4 ≤ (nI 3) then
            bO (fX10_rowRefusal x1 (nI 0) s) fun r2 =>
            bnd r2 fun v3 =>
            if v3 = 0 then
              ldS 6 x1 fun j4 =>
              bP (fX10_thinkDay j4 x2 s) fun r5 s6 =>
              if x4 = (nI 3) then
                ldA s6 (aM_ages 1) 8 x3 fun v8 =>
                some (v8, s6)
              else
                bO (fX6_pull 1 x3 x4 s6) fun r7 =>
                some (r7, s6)
            else
              some (v3, s)
          else
            some ((-1), s)

set_option maxRecDepth 20000 in
theorem tX10_later {ρ : mRo} {d : Nat} {P : mPo} {V : mS → List mE} (hV : mView LC V)  {x1 : Int32} {x2 : Int32} {x3 : Int32} {x4 : Int32} {s : mS} {res : (Int32 × mS)} (hf : fX10_later x1 x2 x3 x4 s = some res) (hP : P (some (.int res.1)) (V res.2)) : mC ρ (d + 4) 72 [.ref qT, .int x1, .int x2, .int x3, .int x4] (V s) P := by
  refine ⟨_, rfl, Nat.le_of_ble_eq_true rfl, by decide, ?_⟩
  show mG ρ (mC ρ (d + 3)) 10 6 cX10_later (some .int) P 0 [(0, .ref qT), (1, .int x1), (2, .int x2), (3, .int x3), (4, .int x4)] [] (V s)
  unfold fX10_later at hf
  refine e_iload_n 2 dX10_later_0 rfl rfl ?_
  refine e_if_lt 32 dX10_later_1 (by decide) hf (fun hf => ?_) (fun hf => ?_)
  · refine e_iconst (w := (-1)) dX10_later_32 (by decide) ?_
    obtain rfl := Option.some.inj hf
    exact e_iret dX10_later_33 trivial hP
  · refine e_iload_n 2 dX10_later_4 rfl rfl ?_
    refine e_bipush (w := (nI 30)) dX10_later_5 (by decide) ?_
    refine e_icmp_gt 32 dX10_later_7 (by decide) hf (fun hf => ?_) (fun hf => ?_)
    · refine e_iconst (w := (-1)) dX10_later_32 (by decide) ?_
      obtain rfl := Option.some.inj hf
      exact e_iret dX10_later_33 trivial hP
    · refine e_aload_n 0 dX10_later_10 rfl rfl ?_
      refine e_getr hV dX10_later_11 rfl lc_T rfl ?_
      refine e_iload_n 3 dX10_later_14 rfl rfl ?_
      obtain ⟨r1, hg, hf⟩ := bO_some hf
      refine e_callV (as := [.int x3]) (v := (some (.int r1))) (s' := s) hV dX10_later_15 (Or.inl rfl) rfl rfl rfl rfl (Nat.le_of_ble_eq_true rfl) (lc_M (by decide)) rfl rfl (fun Q hQ => tX6_has (d := (d + 2)) hV (by decide) hg hQ) ?_
      refine e_if_eq 32 dX10_later_18 (by decide) hf (fun hf => ?_) (fun hf => ?_)
      · refine e_iconst (w := (-1)) dX10_later_32 (by decide) ?_
        obtain rfl := Option.some.inj hf
        exact e_iret dX10_later_33 trivial hP
      · refine e_iload 4 dX10_later_21 rfl ?_
        refine e_if_lt 32 dX10_later_23 (by decide) hf (fun hf => ?_) (fun hf => ?_)
        · refine e_iconst (w := (-1)) dX10_later_32 (by decide) ?_
          obtain rfl := Option.some.inj hf
          exact e_iret dX10_later_33 trivial hP
        · refine e_iload 4 dX10_later_26 rfl ?_
          refine e_iconst (w := (nI 3)) dX10_later_28 (by decide) ?_
          refine e_icmp_le 34 dX10_later_29 (by decide) hf (fun hf => ?_) (fun hf => ?_)
          · refine e_aload_n 0 dX10_later_34 rfl rfl ?_
            refine e_iload_n 1 dX10_later_35 rfl rfl ?_
            refine e_iconst (w := (nI 0)) dX10_later_36 (by decide) ?_
            obtain ⟨r2, hg, hf⟩ := bO_some hf
            refine e_callV (as := [.int x1, .int (nI 0)]) (v := (some (.int r2))) (s' := s) hV dX10_later_37 (Or.inl rfl) rfl rfl rfl rfl (Nat.le_of_ble_eq_true rfl) lc_T rfl rfl (fun Q hQ => tX10_rowRefusal (d := (d + 1)) hV  hg hQ) ?_
            refine e_istore dX10_later_40 (by decide) hf (fun v3 hf => ?_)
            refine e_iload 0 dX10_later_42 rfl ?_
            refine e_if_eq 50 dX10_later_44 (by decide) hf (fun hf => ?_) (fun hf => ?_)
            · refine e_aload_n 1 dX10_later_50 rfl rfl ?_
              refine e_aload_n 1 dX10_later_51 rfl rfl ?_
              refine e_getr hV dX10_later_52 rfl lc_T rfl ?_
              refine e_iload_n 2 dX10_later_55 rfl rfl ?_
              refine e_aald hV dX10_later_56 lc_T_shelves rfl lc_T_shelves_at hf (fun j4 hj4 hf => ?_)
              refine e_iload_n 3 dX10_later_57 rfl rfl ?_
              obtain ⟨r5, s6, hg, hf⟩ := bP_some hf
              refine e_callV (as := [.ref (qS j4), .int x2]) (v := (some (.int r5))) (s' := s6) hV dX10_later_58 (Or.inl rfl) rfl rfl rfl rfl (Nat.le_of_ble_eq_true rfl) lc_T rfl rfl (fun Q hQ => tX10_thinkDay (d := d) hV hj4 hg hQ) ?_
              refine e_pop dX10_later_61 rfl ?_
              refine e_iload 5 dX10_later_62 rfl ?_
              refine e_iconst (w := (nI 3)) dX10_later_64 (by decide) ?_
              refine e_icmp_ne 80 dX10_later_65 (by decide) hf (fun hf => ?_) (fun hf => ?_)
              · refine e_aload_n 1 dX10_later_80 rfl rfl ?_
                refine e_getr hV dX10_later_81 rfl lc_T rfl ?_
                refine e_iload_n 4 dX10_later_84 rfl rfl ?_
                refine e_iload 5 dX10_later_85 rfl ?_
                obtain ⟨r7, hg, hf⟩ := bO_some hf
                refine e_callV (as := [.int x3, .int x4]) (v := (some (.int r7))) (s' := s6) hV dX10_later_87 (Or.inl rfl) rfl rfl rfl rfl (Nat.le_of_ble_eq_true rfl) (lc_M (by decide)) rfl rfl (fun Q hQ => tX6_pull (d := (d + 2)) hV (by decide) hg hQ) ?_
                obtain rfl := Option.some.inj hf
                exact e_iret dX10_later_90 trivial hP
              · refine e_aload_n 1 dX10_later_68 rfl rfl ?_
                refine e_getr hV dX10_later_69 rfl lc_T rfl ?_
                refine e_getr hV dX10_later_72 rfl (lc_M (by decide)) rfl ?_
                refine e_iload_n 4 dX10_later_75 rfl rfl ?_
                refine e_iald hV dX10_later_76 (lc_M_ages (by decide)) hf (fun v8 hf => ?_)
                refine e_goto 90 dX10_later_77 (by decide) ?_
                obtain rfl := Option.some.inj hf
                exact e_iret dX10_later_90 trivial hP
            · refine e_iload 0 dX10_later_47 rfl ?_
              obtain rfl := Option.some.inj hf
              exact e_iret dX10_later_49 trivial hP
          · refine e_iconst (w := (-1)) dX10_later_32 (by decide) ?_
            obtain rfl := Option.some.inj hf
            exact e_iret dX10_later_33 trivial hP

theorem dX10_shownCode_0 : decode cX10_shownCode 0 = .ok (.aload_n 0, 1) := by decide +kernel
theorem dX10_shownCode_1 : decode cX10_shownCode 1 = .ok (.aload_n 1, 1) := by decide +kernel
theorem dX10_shownCode_2 : decode cX10_shownCode 2 = .ok (.iload_n 2, 1) := by decide +kernel
theorem dX10_shownCode_3 : decode cX10_shownCode 3 = .ok (.iload_n 3, 1) := by decide +kernel
theorem dX10_shownCode_4 : decode cX10_shownCode 4 = .ok (.iconst 0, 1) := by decide +kernel
theorem dX10_shownCode_5 : decode cX10_shownCode 5 = .ok (.invokevirtual 167, 3) := by decide +kernel
theorem dX10_shownCode_8 : decode cX10_shownCode 8 = .ok (.aload_n 0, 1) := by decide +kernel
theorem dX10_shownCode_9 : decode cX10_shownCode 9 = .ok (.aload_n 1, 1) := by decide +kernel
theorem dX10_shownCode_10 : decode cX10_shownCode 10 = .ok (.iload_n 2, 1) := by decide +kernel
theorem dX10_shownCode_11 : decode cX10_shownCode 11 = .ok (.iload_n 3, 1) := by decide +kernel
theorem dX10_shownCode_12 : decode cX10_shownCode 12 = .ok (.iconst 1, 1) := by decide +kernel
theorem dX10_shownCode_13 : decode cX10_shownCode 13 = .ok (.invokevirtual 167, 3) := by decide +kernel
theorem dX10_shownCode_16 : decode cX10_shownCode 16 = .ok (.aload_n 0, 1) := by decide +kernel
theorem dX10_shownCode_17 : decode cX10_shownCode 17 = .ok (.aload_n 1, 1) := by decide +kernel
theorem dX10_shownCode_18 : decode cX10_shownCode 18 = .ok (.iload_n 2, 1) := by decide +kernel
theorem dX10_shownCode_19 : decode cX10_shownCode 19 = .ok (.iload_n 3, 1) := by decide +kernel
theorem dX10_shownCode_20 : decode cX10_shownCode 20 = .ok (.iconst 2, 1) := by decide +kernel
theorem dX10_shownCode_21 : decode cX10_shownCode 21 = .ok (.invokevirtual 167, 3) := by decide +kernel
theorem dX10_shownCode_24 : decode cX10_shownCode 24 = .ok (.invokestatic 441, 3) := by decide +kernel
theorem dX10_shownCode_27 : decode cX10_shownCode 27 = .ok (.ireturn, 1) := by decide +kernel
def fX10_shownCode (k1 : Nat) (x2 : Int32) (x3 : Int32) (s : mS) : Option (Int32 × mS) :=
  bP (fX10_shown k1 x2 x3 (nI 0) s) fun r1 s2 =>
  bP (fX10_shown k1 x2 x3 (nI 1) s2) fun r3 s4 =>
  bP (fX10_shown k1 x2 x3 (nI 2) s4) fun r5 s6 =>
  bO (fX2_code r1 r3 r5 s6) fun r7 =>
  some (r7, s6)

set_option maxRecDepth 20000 in
theorem tX10_shownCode {ρ : mRo} {d : Nat} {P : mPo} {V : mS → List mE} (hV : mView LC V)  {k1 : Nat} (hk1 : k1 < 3) {x2 : Int32} {x3 : Int32} {s : mS} {res : (Int32 × mS)} (hf : fX10_shownCode k1 x2 x3 s = some res) (hP : P (some (.int res.1)) (V res.2)) : mC ρ (d + 6) 121 [.ref qT, .ref (qM k1), .int x2, .int x3] (V s) P := by
  refine ⟨_, rfl, Nat.le_of_ble_eq_true rfl, by decide, ?_⟩
  show mG ρ (mC ρ (d + 5)) 10 4 cX10_shownCode (some .int) P 0 [(0, .ref qT), (1, .ref (qM k1)), (2, .int x2), (3, .int x3)] [] (V s)
  unfold fX10_shownCode at hf
  refine e_aload_n 0 dX10_shownCode_0 rfl rfl ?_
  refine e_aload_n 1 dX10_shownCode_1 rfl rfl ?_
  refine e_iload_n 2 dX10_shownCode_2 rfl rfl ?_
  refine e_iload_n 3 dX10_shownCode_3 rfl rfl ?_
  refine e_iconst (w := (nI 0)) dX10_shownCode_4 (by decide) ?_
  obtain ⟨r1, s2, hg, hf⟩ := bP_some hf
  refine e_callV (as := [.ref (qM k1), .int x2, .int x3, .int (nI 0)]) (v := (some (.int r1))) (s' := s2) hV dX10_shownCode_5 (Or.inl rfl) rfl rfl rfl rfl (Nat.le_of_ble_eq_true rfl) lc_T rfl rfl (fun Q hQ => tX10_shown (d := d) hV hk1 hg hQ) ?_
  refine e_aload_n 0 dX10_shownCode_8 rfl rfl ?_
  refine e_aload_n 1 dX10_shownCode_9 rfl rfl ?_
  refine e_iload_n 2 dX10_shownCode_10 rfl rfl ?_
  refine e_iload_n 3 dX10_shownCode_11 rfl rfl ?_
  refine e_iconst (w := (nI 1)) dX10_shownCode_12 (by decide) ?_
  obtain ⟨r3, s4, hg, hf⟩ := bP_some hf
  refine e_callV (as := [.ref (qM k1), .int x2, .int x3, .int (nI 1)]) (v := (some (.int r3))) (s' := s4) hV dX10_shownCode_13 (Or.inl rfl) rfl rfl rfl rfl (Nat.le_of_ble_eq_true rfl) lc_T rfl rfl (fun Q hQ => tX10_shown (d := d) hV hk1 hg hQ) ?_
  refine e_aload_n 0 dX10_shownCode_16 rfl rfl ?_
  refine e_aload_n 1 dX10_shownCode_17 rfl rfl ?_
  refine e_iload_n 2 dX10_shownCode_18 rfl rfl ?_
  refine e_iload_n 3 dX10_shownCode_19 rfl rfl ?_
  refine e_iconst (w := (nI 2)) dX10_shownCode_20 (by decide) ?_
  obtain ⟨r5, s6, hg, hf⟩ := bP_some hf
  refine e_callV (as := [.ref (qM k1), .int x2, .int x3, .int (nI 2)]) (v := (some (.int r5))) (s' := s6) hV dX10_shownCode_21 (Or.inl rfl) rfl rfl rfl rfl (Nat.le_of_ble_eq_true rfl) lc_T rfl rfl (fun Q hQ => tX10_shown (d := d) hV hk1 hg hQ) ?_
  obtain ⟨r7, hg, hf⟩ := bO_some hf
  refine e_callS (as := [.int r1, .int r3, .int r5]) (v := (some (.int r7))) (s' := s6) dX10_shownCode_24 rfl rfl rfl rfl rfl (Nat.le_of_ble_eq_true rfl) (fun Q hQ => tX2_code (d := (d + 4)) hV  hg hQ) ?_
  obtain rfl := Option.some.inj hf
  exact e_iret dX10_shownCode_27 trivial hP

theorem dX10_letter_0 : decode cX10_letter 0 = .ok (.iload_n 2, 1) := by decide +kernel
theorem dX10_letter_1 : decode cX10_letter 1 = .ok (.iconst (-1), 1) := by decide +kernel
theorem dX10_letter_2 : decode cX10_letter 2 = .ok (.if_icmp .ge 5, 3) := by decide +kernel
theorem dX10_letter_5 : decode cX10_letter 5 = .ok (.iconst (-1), 1) := by decide +kernel
theorem dX10_letter_6 : decode cX10_letter 6 = .ok (.ireturn, 1) := by decide +kernel
theorem dX10_letter_7 : decode cX10_letter 7 = .ok (.aload_n 0, 1) := by decide +kernel
theorem dX10_letter_8 : decode cX10_letter 8 = .ok (.iload_n 1, 1) := by decide +kernel
theorem dX10_letter_9 : decode cX10_letter 9 = .ok (.iconst 0, 1) := by decide +kernel
theorem dX10_letter_10 : decode cX10_letter 10 = .ok (.invokevirtual 177, 3) := by decide +kernel
theorem dX10_letter_13 : decode cX10_letter 13 = .ok (.istore_n 3, 1) := by decide +kernel
theorem dX10_letter_14 : decode cX10_letter 14 = .ok (.iload_n 3, 1) := by decide +kernel
theorem dX10_letter_15 : decode cX10_letter 15 = .ok (.ifCond .eq 5, 3) := by decide +kernel
theorem dX10_letter_18 : decode cX10_letter 18 = .ok (.iload_n 3, 1) := by decide +kernel
theorem dX10_letter_19 : decode cX10_letter 19 = .ok (.ireturn, 1) := by decide +kernel
theorem dX10_letter_20 : decode cX10_letter 20 = .ok (.aload_n 0, 1) := by decide +kernel
theorem dX10_letter_21 : decode cX10_letter 21 = .ok (.getfield 42, 3) := by decide +kernel
theorem dX10_letter_24 : decode cX10_letter 24 = .ok (.iload_n 1, 1) := by decide +kernel
theorem dX10_letter_25 : decode cX10_letter 25 = .ok (.aaload, 1) := by decide +kernel
theorem dX10_letter_26 : decode cX10_letter 26 = .ok (.astore 4, 2) := by decide +kernel
theorem dX10_letter_28 : decode cX10_letter 28 = .ok (.iload_n 2, 1) := by decide +kernel
theorem dX10_letter_29 : decode cX10_letter 29 = .ok (.iconst (-1), 1) := by decide +kernel
theorem dX10_letter_30 : decode cX10_letter 30 = .ok (.if_icmp .ne 12, 3) := by decide +kernel
theorem dX10_letter_33 : decode cX10_letter 33 = .ok (.aload_n 0, 1) := by decide +kernel
theorem dX10_letter_34 : decode cX10_letter 34 = .ok (.aload 4, 2) := by decide +kernel
theorem dX10_letter_36 : decode cX10_letter 36 = .ok (.bipush 30, 2) := by decide +kernel
theorem dX10_letter_38 : decode cX10_letter 38 = .ok (.invokevirtual 180, 3) := by decide +kernel
theorem dX10_letter_41 : decode cX10_letter 41 = .ok (.ireturn, 1) := by decide +kernel
theorem dX10_letter_42 : decode cX10_letter 42 = .ok (.iload_n 2, 1) := by decide +kernel
theorem dX10_letter_43 : decode cX10_letter 43 = .ok (.bipush 30, 2) := by decide +kernel
theorem dX10_letter_45 : decode cX10_letter 45 = .ok (.if_icmp .ge 24, 3) := by decide +kernel
theorem dX10_letter_48 : decode cX10_letter 48 = .ok (.aload_n 0, 1) := by decide +kernel
theorem dX10_letter_49 : decode cX10_letter 49 = .ok (.aload 4, 2) := by decide +kernel
theorem dX10_letter_51 : decode cX10_letter 51 = .ok (.iload_n 2, 1) := by decide +kernel
theorem dX10_letter_52 : decode cX10_letter 52 = .ok (.invokevirtual 180, 3) := by decide +kernel
theorem dX10_letter_55 : decode cX10_letter 55 = .ok (.iload_n 2, 1) := by decide +kernel
theorem dX10_letter_56 : decode cX10_letter 56 = .ok (.if_icmp .lt 13, 3) := by decide +kernel
theorem dX10_letter_59 : decode cX10_letter 59 = .ok (.aload_n 0, 1) := by decide +kernel
theorem dX10_letter_60 : decode cX10_letter 60 = .ok (.aload 4, 2) := by decide +kernel
theorem dX10_letter_62 : decode cX10_letter 62 = .ok (.iload_n 2, 1) := by decide +kernel
theorem dX10_letter_63 : decode cX10_letter 63 = .ok (.invokevirtual 190, 3) := by decide +kernel
theorem dX10_letter_66 : decode cX10_letter 66 = .ok (.ifCond .ne 6, 3) := by decide +kernel
theorem dX10_letter_69 : decode cX10_letter 69 = .ok (.bipush (-2), 2) := by decide +kernel
theorem dX10_letter_71 : decode cX10_letter 71 = .ok (.ireturn, 1) := by decide +kernel
theorem dX10_letter_72 : decode cX10_letter 72 = .ok (.aload_n 0, 1) := by decide +kernel
theorem dX10_letter_73 : decode cX10_letter 73 = .ok (.aload_n 0, 1) := by decide +kernel
theorem dX10_letter_74 : decode cX10_letter 74 = .ok (.getfield 16, 3) := by decide +kernel
theorem dX10_letter_77 : decode cX10_letter 77 = .ok (.aload 4, 2) := by decide +kernel
theorem dX10_letter_79 : decode cX10_letter 79 = .ok (.getfield 117, 3) := by decide +kernel
theorem dX10_letter_82 : decode cX10_letter 82 = .ok (.iconst 2, 1) := by decide +kernel
theorem dX10_letter_83 : decode cX10_letter 83 = .ok (.iload_n 2, 1) := by decide +kernel
theorem dX10_letter_84 : decode cX10_letter 84 = .ok (.imul, 1) := by decide +kernel
theorem dX10_letter_85 : decode cX10_letter 85 = .ok (.laload, 1) := by decide +kernel
theorem dX10_letter_86 : decode cX10_letter 86 = .ok (.l2i, 1) := by decide +kernel
theorem dX10_letter_87 : decode cX10_letter 87 = .ok (.aload 4, 2) := by decide +kernel
theorem dX10_letter_89 : decode cX10_letter 89 = .ok (.getfield 117, 3) := by decide +kernel
theorem dX10_letter_92 : decode cX10_letter 92 = .ok (.iconst 2, 1) := by decide +kernel
theorem dX10_letter_93 : decode cX10_letter 93 = .ok (.iload_n 2, 1) := by decide +kernel
theorem dX10_letter_94 : decode cX10_letter 94 = .ok (.imul, 1) := by decide +kernel
theorem dX10_letter_95 : decode cX10_letter 95 = .ok (.iconst 1, 1) := by decide +kernel
theorem dX10_letter_96 : decode cX10_letter 96 = .ok (.iadd, 1) := by decide +kernel
theorem dX10_letter_97 : decode cX10_letter 97 = .ok (.laload, 1) := by decide +kernel
theorem dX10_letter_98 : decode cX10_letter 98 = .ok (.l2i, 1) := by decide +kernel
theorem dX10_letter_99 : decode cX10_letter 99 = .ok (.invokevirtual 193, 3) := by decide +kernel
theorem dX10_letter_102 : decode cX10_letter 102 = .ok (.ireturn, 1) := by decide +kernel
def fX10_letter (x1 : Int32) (x2 : Int32) (s : mS) : Option (Int32 × mS) :=
  if (-1) ≤ x2 then
    bO (fX10_rowRefusal x1 (nI 0) s) fun r1 =>
    bnd r1 fun v2 =>
    if v2 = 0 then
      ldS 6 x1 fun j3 =>
      if x2 = (-1) then
        bP (fX10_thinkDay j3 (nI 30) s) fun r11 s12 =>
        some (r11, s12)
      else
        if (nI 30) ≤ x2 then
          some ((-2), s)
        else
          bP (fX10_thinkDay j3 x2 s) fun r4 s5 =>
          if r4 < x2 then
            some ((-2), s5)
          else
            bO (fX10_dayHas j3 x2 s5) fun r6 =>
            if r6 = 0 then
              some ((-2), s5)
            else
              ldL s5 (lS_cells j3) 60 ((nI 2) * x2) fun v7 =>
              ldL s5 (lS_cells j3) 60 (((nI 2) * x2) + (nI 1)) fun v8 =>
              bP (fX10_shownCode 1 (Int64.toInt32 v7) (Int64.toInt32 v8) s5) fun r9 s10 =>
              some (r9, s10)
    else
      some (v2, s)
  else
    some ((-1), s)

set_option maxRecDepth 20000 in
theorem tX10_letter {ρ : mRo} {d : Nat} {P : mPo} {V : mS → List mE} (hV : mView LC V)  {x1 : Int32} {x2 : Int32} {s : mS} {res : (Int32 × mS)} (hf : fX10_letter x1 x2 s = some res) (hP : P (some (.int res.1)) (V res.2)) : mC ρ (d + 7) 73 [.ref qT, .int x1, .int x2] (V s) P := by
  refine ⟨_, rfl, Nat.le_of_ble_eq_true rfl, by decide, ?_⟩
  show mG ρ (mC ρ (d + 6)) 10 5 cX10_letter (some .int) P 0 [(0, .ref qT), (1, .int x1), (2, .int x2)] [] (V s)
  unfold fX10_letter at hf
  refine e_iload_n 2 dX10_letter_0 rfl rfl ?_
  refine e_iconst (w := (-1)) dX10_letter_1 (by decide) ?_
  refine e_icmp_ge 7 dX10_letter_2 (by decide) hf (fun hf => ?_) (fun hf => ?_)
  · refine e_aload_n 0 dX10_letter_7 rfl rfl ?_
    refine e_iload_n 1 dX10_letter_8 rfl rfl ?_
    refine e_iconst (w := (nI 0)) dX10_letter_9 (by decide) ?_
    obtain ⟨r1, hg, hf⟩ := bO_some hf
    refine e_callV (as := [.int x1, .int (nI 0)]) (v := (some (.int r1))) (s' := s) hV dX10_letter_10 (Or.inl rfl) rfl rfl rfl rfl (Nat.le_of_ble_eq_true rfl) lc_T rfl rfl (fun Q hQ => tX10_rowRefusal (d := (d + 4)) hV  hg hQ) ?_
    refine e_istore_n dX10_letter_13 rfl (by decide) hf (fun v2 hf => ?_)
    refine e_iload_n 0 dX10_letter_14 rfl rfl ?_
    refine e_if_eq 20 dX10_letter_15 (by decide) hf (fun hf => ?_) (fun hf => ?_)
    · refine e_aload_n 1 dX10_letter_20 rfl rfl ?_
      refine e_getr hV dX10_letter_21 rfl lc_T rfl ?_
      refine e_iload_n 2 dX10_letter_24 rfl rfl ?_
      refine e_aald hV dX10_letter_25 lc_T_shelves rfl lc_T_shelves_at hf (fun j3 hj3 hf => ?_)
      refine e_astore dX10_letter_26 (by decide) ?_
      refine e_iload_n 4 dX10_letter_28 rfl rfl ?_
      refine e_iconst (w := (-1)) dX10_letter_29 (by decide) ?_
      refine e_icmp_ne 42 dX10_letter_30 (by decide) hf (fun hf => ?_) (fun hf => ?_)
      · refine e_iload_n 4 dX10_letter_42 rfl rfl ?_
        refine e_bipush (w := (nI 30)) dX10_letter_43 (by decide) ?_
        refine e_icmp_ge 69 dX10_letter_45 (by decide) hf (fun hf => ?_) (fun hf => ?_)
        · refine e_bipush (w := (-2)) dX10_letter_69 (by decide) ?_
          obtain rfl := Option.some.inj hf
          exact e_iret dX10_letter_71 trivial hP
        · refine e_aload_n 2 dX10_letter_48 rfl rfl ?_
          refine e_aload 0 dX10_letter_49 rfl ?_
          refine e_iload_n 4 dX10_letter_51 rfl rfl ?_
          obtain ⟨r4, s5, hg, hf⟩ := bP_some hf
          refine e_callV (as := [.ref (qS j3), .int x2]) (v := (some (.int r4))) (s' := s5) hV dX10_letter_52 (Or.inl rfl) rfl rfl rfl rfl (Nat.le_of_ble_eq_true rfl) lc_T rfl rfl (fun Q hQ => tX10_thinkDay (d := (d + 3)) hV hj3 hg hQ) ?_
          refine e_iload_n 4 dX10_letter_55 rfl rfl ?_
          refine e_icmp_lt 69 dX10_letter_56 (by decide) hf (fun hf => ?_) (fun hf => ?_)
          · refine e_bipush (w := (-2)) dX10_letter_69 (by decide) ?_
            obtain rfl := Option.some.inj hf
            exact e_iret dX10_letter_71 trivial hP
          · refine e_aload_n 2 dX10_letter_59 rfl rfl ?_
            refine e_aload 0 dX10_letter_60 rfl ?_
            refine e_iload_n 4 dX10_letter_62 rfl rfl ?_
            obtain ⟨r6, hg, hf⟩ := bO_some hf
            refine e_callV (as := [.ref (qS j3), .int x2]) (v := (some (.int r6))) (s' := s5) hV dX10_letter_63 (Or.inl rfl) rfl rfl rfl rfl (Nat.le_of_ble_eq_true rfl) lc_T rfl rfl (fun Q hQ => tX10_dayHas (d := (d + 4)) hV hj3 hg hQ) ?_
            refine e_if_ne 72 dX10_letter_66 (by decide) hf (fun hf => ?_) (fun hf => ?_)
            · refine e_aload_n 2 dX10_letter_72 rfl rfl ?_
              refine e_aload_n 2 dX10_letter_73 rfl rfl ?_
              refine e_getr hV dX10_letter_74 rfl lc_T rfl ?_
              refine e_aload 0 dX10_letter_77 rfl ?_
              refine e_getr hV dX10_letter_79 rfl (lc_S hj3) rfl ?_
              refine e_iconst (w := (nI 2)) dX10_letter_82 (by decide) ?_
              refine e_iload_n 4 dX10_letter_83 rfl rfl ?_
              refine e_imul dX10_letter_84 ?_
              refine e_lald hV dX10_letter_85 (lc_S_cells hj3) hf (fun v7 hf => ?_)
              refine e_l2i dX10_letter_86 ?_
              refine e_aload 0 dX10_letter_87 rfl ?_
              refine e_getr hV dX10_letter_89 rfl (lc_S hj3) rfl ?_
              refine e_iconst (w := (nI 2)) dX10_letter_92 (by decide) ?_
              refine e_iload_n 4 dX10_letter_93 rfl rfl ?_
              refine e_imul dX10_letter_94 ?_
              refine e_iconst (w := (nI 1)) dX10_letter_95 (by decide) ?_
              refine e_iadd dX10_letter_96 ?_
              refine e_lald hV dX10_letter_97 (lc_S_cells hj3) hf (fun v8 hf => ?_)
              refine e_l2i dX10_letter_98 ?_
              obtain ⟨r9, s10, hg, hf⟩ := bP_some hf
              refine e_callV (as := [.ref (qM 1), .int (Int64.toInt32 v7), .int (Int64.toInt32 v8)]) (v := (some (.int r9))) (s' := s10) hV dX10_letter_99 (Or.inl rfl) rfl rfl rfl rfl (Nat.le_of_ble_eq_true rfl) lc_T rfl rfl (fun Q hQ => tX10_shownCode (d := d) hV (by decide) hg hQ) ?_
              obtain rfl := Option.some.inj hf
              exact e_iret dX10_letter_102 trivial hP
            · refine e_bipush (w := (-2)) dX10_letter_69 (by decide) ?_
              obtain rfl := Option.some.inj hf
              exact e_iret dX10_letter_71 trivial hP
      · refine e_aload_n 2 dX10_letter_33 rfl rfl ?_
        refine e_aload 0 dX10_letter_34 rfl ?_
        refine e_bipush (w := (nI 30)) dX10_letter_36 (by decide) ?_
        obtain ⟨r11, s12, hg, hf⟩ := bP_some hf
        refine e_callV (as := [.ref (qS j3), .int (nI 30)]) (v := (some (.int r11))) (s' := s12) hV dX10_letter_38 (Or.inl rfl) rfl rfl rfl rfl (Nat.le_of_ble_eq_true rfl) lc_T rfl rfl (fun Q hQ => tX10_thinkDay (d := (d + 3)) hV hj3 hg hQ) ?_
        obtain rfl := Option.some.inj hf
        exact e_iret dX10_letter_41 trivial hP
    · refine e_iload_n 0 dX10_letter_18 rfl rfl ?_
      obtain rfl := Option.some.inj hf
      exact e_iret dX10_letter_19 trivial hP
  · refine e_iconst (w := (-1)) dX10_letter_5 (by decide) ?_
    obtain rfl := Option.some.inj hf
    exact e_iret dX10_letter_6 trivial hP

theorem dX10_playRound_0 : decode cX10_playRound 0 = .ok (.aload_n 0, 1) := by decide +kernel
theorem dX10_playRound_1 : decode cX10_playRound 1 = .ok (.getfield 16, 3) := by decide +kernel
theorem dX10_playRound_4 : decode cX10_playRound 4 = .ok (.invokevirtual 444, 3) := by decide +kernel
theorem dX10_playRound_7 : decode cX10_playRound 7 = .ok (.iconst 0, 1) := by decide +kernel
theorem dX10_playRound_8 : decode cX10_playRound 8 = .ok (.istore_n 2, 1) := by decide +kernel
theorem dX10_playRound_9 : decode cX10_playRound 9 = .ok (.iload_n 2, 1) := by decide +kernel
theorem dX10_playRound_10 : decode cX10_playRound 10 = .ok (.bipush 30, 2) := by decide +kernel
theorem dX10_playRound_12 : decode cX10_playRound 12 = .ok (.if_icmp .ge 46, 3) := by decide +kernel
theorem dX10_playRound_15 : decode cX10_playRound 15 = .ok (.aload_n 0, 1) := by decide +kernel
theorem dX10_playRound_16 : decode cX10_playRound 16 = .ok (.aload_n 1, 1) := by decide +kernel
theorem dX10_playRound_17 : decode cX10_playRound 17 = .ok (.iload_n 2, 1) := by decide +kernel
theorem dX10_playRound_18 : decode cX10_playRound 18 = .ok (.invokevirtual 190, 3) := by decide +kernel
theorem dX10_playRound_21 : decode cX10_playRound 21 = .ok (.ifCond .eq 37, 3) := by decide +kernel
theorem dX10_playRound_24 : decode cX10_playRound 24 = .ok (.aload_n 0, 1) := by decide +kernel
theorem dX10_playRound_25 : decode cX10_playRound 25 = .ok (.aload_n 0, 1) := by decide +kernel
theorem dX10_playRound_26 : decode cX10_playRound 26 = .ok (.getfield 16, 3) := by decide +kernel
theorem dX10_playRound_29 : decode cX10_playRound 29 = .ok (.aload_n 1, 1) := by decide +kernel
theorem dX10_playRound_30 : decode cX10_playRound 30 = .ok (.getfield 117, 3) := by decide +kernel
theorem dX10_playRound_33 : decode cX10_playRound 33 = .ok (.iconst 2, 1) := by decide +kernel
theorem dX10_playRound_34 : decode cX10_playRound 34 = .ok (.iload_n 2, 1) := by decide +kernel
theorem dX10_playRound_35 : decode cX10_playRound 35 = .ok (.imul, 1) := by decide +kernel
theorem dX10_playRound_36 : decode cX10_playRound 36 = .ok (.laload, 1) := by decide +kernel
theorem dX10_playRound_37 : decode cX10_playRound 37 = .ok (.l2i, 1) := by decide +kernel
theorem dX10_playRound_38 : decode cX10_playRound 38 = .ok (.aload_n 1, 1) := by decide +kernel
theorem dX10_playRound_39 : decode cX10_playRound 39 = .ok (.getfield 117, 3) := by decide +kernel
theorem dX10_playRound_42 : decode cX10_playRound 42 = .ok (.iconst 2, 1) := by decide +kernel
theorem dX10_playRound_43 : decode cX10_playRound 43 = .ok (.iload_n 2, 1) := by decide +kernel
theorem dX10_playRound_44 : decode cX10_playRound 44 = .ok (.imul, 1) := by decide +kernel
theorem dX10_playRound_45 : decode cX10_playRound 45 = .ok (.iconst 1, 1) := by decide +kernel
theorem dX10_playRound_46 : decode cX10_playRound 46 = .ok (.iadd, 1) := by decide +kernel
theorem dX10_playRound_47 : decode cX10_playRound 47 = .ok (.laload, 1) := by decide +kernel
theorem dX10_playRound_48 : decode cX10_playRound 48 = .ok (.l2i, 1) := by decide +kernel
theorem dX10_playRound_49 : decode cX10_playRound 49 = .ok (.invokevirtual 254, 3) := by decide +kernel
theorem dX10_playRound_52 : decode cX10_playRound 52 = .ok (.iinc 2 1, 3) := by decide +kernel
theorem dX10_playRound_55 : decode cX10_playRound 55 = .ok (.goto (-46), 3) := by decide +kernel
theorem dX10_playRound_58 : decode cX10_playRound 58 = .ok (.aload_n 0, 1) := by decide +kernel
theorem dX10_playRound_59 : decode cX10_playRound 59 = .ok (.getfield 16, 3) := by decide +kernel
theorem dX10_playRound_62 : decode cX10_playRound 62 = .ok (.invokevirtual 447, 3) := by decide +kernel
theorem dX10_playRound_65 : decode cX10_playRound 65 = .ok (.ireturn, 1) := by decide +kernel
def fX10_playRound_b58 (s : mS) : Option (Int32 × mS) :=
  bO (fX6_haveMoved 1 s) fun r3 =>
  rB r3 (some (r3, s))

def fX10_playRound_b9 : Nat → Nat → Int32 → mS → Option (Int32 × mS)
  | 0, _, _, _ => none
  | k + 1, k1, y2, s =>
    if (nI 30) ≤ y2 then
      fX10_playRound_b58 s
    else
      bO (fX10_dayHas k1 y2 s) fun r4 =>
      if r4 = 0 then
        fX10_playRound_b58 s
      else
        ldL s (lS_cells k1) 60 ((nI 2) * y2) fun v5 =>
        ldL s (lS_cells k1) 60 (((nI 2) * y2) + (nI 1)) fun v6 =>
        bO (fX10_pass 1 (Int64.toInt32 v5) (Int64.toInt32 v6) s) fun s7 =>
        bnd (y2 + (nI 1)) fun v8 =>
        fX10_playRound_b9 k k1 v8 s7

def fX10_playRound (k1 : Nat) (s : mS) : Option (Int32 × mS) :=
  bO (fX6_markPulls 1 s) fun s1 =>
  bnd (nI 0) fun v2 =>
  fX10_playRound_b9 mFu k1 v2 s1

set_option maxRecDepth 20000 in
theorem wX10_playRound_b58 {ρ : mRo} {d : Nat} {P : mPo} {V : mS → List mE} (hV : mView LC V)  {res : (Int32 × mS)} (hP : P (some (.int res.1)) (V res.2)) (s : mS) (hf : fX10_playRound_b58 s = some res) : mG ρ (mC ρ (d + 2)) 10 3 cX10_playRound (some .boolean) P 58 [(0, .ref qT)] [] (V s) := by
  unfold fX10_playRound_b58 at hf
  refine e_aload_n 0 dX10_playRound_58 rfl rfl ?_
  refine e_getr hV dX10_playRound_59 rfl lc_T rfl ?_
  obtain ⟨r3, hg, hf⟩ := bO_some hf
  refine e_callV (as := []) (v := (some (.int r3))) (s' := s) hV dX10_playRound_62 (Or.inl rfl) rfl rfl rfl rfl (Nat.le_of_ble_eq_true rfl) (lc_M (by decide)) rfl rfl (fun Q hQ => tX6_haveMoved (d := (d + 1)) hV (by decide) hg hQ) ?_
  obtain ⟨hb0, hf⟩ := rB_some hf
  obtain rfl := Option.some.inj hf
  exact e_iret dX10_playRound_65 hb0 hP
set_option maxRecDepth 20000 in
theorem wX10_playRound_b9 {ρ : mRo} {d : Nat} {P : mPo} {V : mS → List mE} (hV : mView LC V)  {res : (Int32 × mS)} (hP : P (some (.int res.1)) (V res.2)) : ∀ (k : Nat) (k1 : Nat) (hk1 : k1 < 6) (y2 : Int32) (s : mS), fX10_playRound_b9 k k1 y2 s = some res → mG ρ (mC ρ (d + 2)) 10 3 cX10_playRound (some .boolean) P 9 [(0, .ref qT), (1, .ref (qS k1)), (2, .int y2)] [] (V s) := by
  intro k
  induction k with
  | zero => intro k1 hk1 y2 s hf; rw [fX10_playRound_b9] at hf; cases hf
  | succ k ih =>
    intro k1 hk1 y2 s hf
    rw [fX10_playRound_b9] at hf
    refine e_iload_n 2 dX10_playRound_9 rfl rfl ?_
    refine e_bipush (w := (nI 30)) dX10_playRound_10 (by decide) ?_
    refine e_icmp_ge 58 dX10_playRound_12 (by decide) hf (fun hf => ?_) (fun hf => ?_)
    · refine e_pick [0] rfl ?_
      exact wX10_playRound_b58 hV hP s hf
    · refine e_aload_n 0 dX10_playRound_15 rfl rfl ?_
      refine e_aload_n 1 dX10_playRound_16 rfl rfl ?_
      refine e_iload_n 2 dX10_playRound_17 rfl rfl ?_
      obtain ⟨r4, hg, hf⟩ := bO_some hf
      refine e_callV (as := [.ref (qS k1), .int y2]) (v := (some (.int r4))) (s' := s) hV dX10_playRound_18 (Or.inl rfl) rfl rfl rfl rfl (Nat.le_of_ble_eq_true rfl) lc_T rfl rfl (fun Q hQ => tX10_dayHas (d := d) hV hk1 hg hQ) ?_
      refine e_if_eq 58 dX10_playRound_21 (by decide) hf (fun hf => ?_) (fun hf => ?_)
      · refine e_pick [0] rfl ?_
        exact wX10_playRound_b58 hV hP s hf
      · refine e_aload_n 0 dX10_playRound_24 rfl rfl ?_
        refine e_aload_n 0 dX10_playRound_25 rfl rfl ?_
        refine e_getr hV dX10_playRound_26 rfl lc_T rfl ?_
        refine e_aload_n 1 dX10_playRound_29 rfl rfl ?_
        refine e_getr hV dX10_playRound_30 rfl (lc_S hk1) rfl ?_
        refine e_iconst (w := (nI 2)) dX10_playRound_33 (by decide) ?_
        refine e_iload_n 2 dX10_playRound_34 rfl rfl ?_
        refine e_imul dX10_playRound_35 ?_
        refine e_lald hV dX10_playRound_36 (lc_S_cells hk1) hf (fun v5 hf => ?_)
        refine e_l2i dX10_playRound_37 ?_
        refine e_aload_n 1 dX10_playRound_38 rfl rfl ?_
        refine e_getr hV dX10_playRound_39 rfl (lc_S hk1) rfl ?_
        refine e_iconst (w := (nI 2)) dX10_playRound_42 (by decide) ?_
        refine e_iload_n 2 dX10_playRound_43 rfl rfl ?_
        refine e_imul dX10_playRound_44 ?_
        refine e_iconst (w := (nI 1)) dX10_playRound_45 (by decide) ?_
        refine e_iadd dX10_playRound_46 ?_
        refine e_lald hV dX10_playRound_47 (lc_S_cells hk1) hf (fun v6 hf => ?_)
        refine e_l2i dX10_playRound_48 ?_
        obtain ⟨s7, hg, hf⟩ := bO_some hf
        refine e_callV (as := [.ref (qM 1), .int (Int64.toInt32 v5), .int (Int64.toInt32 v6)]) (v := none) (s' := s7) hV dX10_playRound_49 (Or.inl rfl) rfl rfl rfl rfl (Nat.le_of_ble_eq_true rfl) lc_T rfl rfl (fun Q hQ => tX10_pass (d := d) hV (by decide) hg hQ) ?_
        refine e_iinc 2 dX10_playRound_52 (by decide) rfl hf (fun v8 hf => ?_)
        refine e_goto 9 dX10_playRound_55 (by decide) ?_
        refine e_pick [1, 2, 0] rfl ?_
        exact ih k1 hk1 v8 s7 hf
set_option maxRecDepth 20000 in
theorem tX10_playRound {ρ : mRo} {d : Nat} {P : mPo} {V : mS → List mE} (hV : mView LC V)  {k1 : Nat} (hk1 : k1 < 6) {s : mS} {res : (Int32 × mS)} (hf : fX10_playRound k1 s = some res) (hP : P (some (.int res.1)) (V res.2)) : mC ρ (d + 3) 125 [.ref qT, .ref (qS k1)] (V s) P := by
  refine ⟨_, rfl, Nat.le_of_ble_eq_true rfl, by decide, ?_⟩
  show mG ρ (mC ρ (d + 2)) 10 3 cX10_playRound (some .boolean) P 0 [(0, .ref qT), (1, .ref (qS k1))] [] (V s)
  unfold fX10_playRound at hf
  refine e_aload_n 0 dX10_playRound_0 rfl rfl ?_
  refine e_getr hV dX10_playRound_1 rfl lc_T rfl ?_
  obtain ⟨s1, hg, hf⟩ := bO_some hf
  refine e_callV (as := []) (v := none) (s' := s1) hV dX10_playRound_4 (Or.inl rfl) rfl rfl rfl rfl (Nat.le_of_ble_eq_true rfl) (lc_M (by decide)) rfl rfl (fun Q hQ => tX6_markPulls (d := (d + 1)) hV (by decide) hg hQ) ?_
  refine e_iconst (w := (nI 0)) dX10_playRound_7 (by decide) ?_
  refine e_istore_n dX10_playRound_8 rfl (by decide) hf (fun v2 hf => ?_)
  refine e_pick [1, 2, 0] rfl ?_
  exact wX10_playRound_b9 hV hP mFu k1 hk1 v2 s1 hf

theorem dX10_still_0 : decode cX10_still 0 = .ok (.aload_n 0, 1) := by decide +kernel
theorem dX10_still_1 : decode cX10_still 1 = .ok (.iload_n 1, 1) := by decide +kernel
theorem dX10_still_2 : decode cX10_still 2 = .ok (.iconst 0, 1) := by decide +kernel
theorem dX10_still_3 : decode cX10_still 3 = .ok (.invokevirtual 177, 3) := by decide +kernel
theorem dX10_still_6 : decode cX10_still 6 = .ok (.istore_n 2, 1) := by decide +kernel
theorem dX10_still_7 : decode cX10_still 7 = .ok (.iload_n 2, 1) := by decide +kernel
theorem dX10_still_8 : decode cX10_still 8 = .ok (.ifCond .eq 5, 3) := by decide +kernel
theorem dX10_still_11 : decode cX10_still 11 = .ok (.iload_n 2, 1) := by decide +kernel
theorem dX10_still_12 : decode cX10_still 12 = .ok (.ireturn, 1) := by decide +kernel
theorem dX10_still_13 : decode cX10_still 13 = .ok (.aload_n 0, 1) := by decide +kernel
theorem dX10_still_14 : decode cX10_still 14 = .ok (.getfield 42, 3) := by decide +kernel
theorem dX10_still_17 : decode cX10_still 17 = .ok (.iload_n 1, 1) := by decide +kernel
theorem dX10_still_18 : decode cX10_still 18 = .ok (.aaload, 1) := by decide +kernel
theorem dX10_still_19 : decode cX10_still 19 = .ok (.astore_n 3, 1) := by decide +kernel
theorem dX10_still_20 : decode cX10_still 20 = .ok (.aload_n 0, 1) := by decide +kernel
theorem dX10_still_21 : decode cX10_still 21 = .ok (.getfield 16, 3) := by decide +kernel
theorem dX10_still_24 : decode cX10_still 24 = .ok (.aload_n 0, 1) := by decide +kernel
theorem dX10_still_25 : decode cX10_still 25 = .ok (.getfield 10, 3) := by decide +kernel
theorem dX10_still_28 : decode cX10_still 28 = .ok (.invokevirtual 197, 3) := by decide +kernel
theorem dX10_still_31 : decode cX10_still 31 = .ok (.iconst 0, 1) := by decide +kernel
theorem dX10_still_32 : decode cX10_still 32 = .ok (.istore 4, 2) := by decide +kernel
theorem dX10_still_34 : decode cX10_still 34 = .ok (.iload 4, 2) := by decide +kernel
theorem dX10_still_36 : decode cX10_still 36 = .ok (.bipush 99, 2) := by decide +kernel
theorem dX10_still_38 : decode cX10_still 38 = .ok (.if_icmp .gt 20, 3) := by decide +kernel
theorem dX10_still_41 : decode cX10_still 41 = .ok (.aload_n 0, 1) := by decide +kernel
theorem dX10_still_42 : decode cX10_still 42 = .ok (.aload_n 3, 1) := by decide +kernel
theorem dX10_still_43 : decode cX10_still 43 = .ok (.invokevirtual 201, 3) := by decide +kernel
theorem dX10_still_46 : decode cX10_still 46 = .ok (.ifCond .ne 6, 3) := by decide +kernel
theorem dX10_still_49 : decode cX10_still 49 = .ok (.iload 4, 2) := by decide +kernel
theorem dX10_still_51 : decode cX10_still 51 = .ok (.ireturn, 1) := by decide +kernel
theorem dX10_still_52 : decode cX10_still 52 = .ok (.iinc 4 1, 3) := by decide +kernel
theorem dX10_still_55 : decode cX10_still 55 = .ok (.goto (-21), 3) := by decide +kernel
theorem dX10_still_58 : decode cX10_still 58 = .ok (.bipush (-2), 2) := by decide +kernel
theorem dX10_still_60 : decode cX10_still 60 = .ok (.ireturn, 1) := by decide +kernel
def fX10_still_b34 : Nat → Nat → Int32 → mS → Option (Int32 × mS)
  | 0, _, _, _ => none
  | k + 1, j3, y4, s =>
    if (nI 99) < y4 then
      some ((-2), s)
    else
      bP (fX10_playRound j3 s) fun r6 s7 =>
      if r6 = 0 then
        some (y4, s7)
      else
        bnd (y4 + (nI 1)) fun v8 =>
        fX10_still_b34 k j3 v8 s7

def fX10_still (x1 : Int32) (s : mS) : Option (Int32 × mS) :=
  bO (fX10_rowRefusal x1 (nI 0) s) fun r1 =>
  bnd r1 fun v2 =>
  if v2 = 0 then
    ldS 6 x1 fun j3 =>
    bO (fX6_copy 1 0 s) fun s4 =>
    bnd (nI 0) fun v5 =>
    fX10_still_b34 mFu j3 v5 s4
  else
    some (v2, s)

set_option maxRecDepth 20000 in
theorem wX10_still_b34 {ρ : mRo} {d : Nat} {P : mPo} {V : mS → List mE} (hV : mView LC V)  {res : (Int32 × mS)} (hP : P (some (.int res.1)) (V res.2)) : ∀ (k : Nat) (j3 : Nat) (hj3 : j3 < 6) (y4 : Int32) (s : mS), fX10_still_b34 k j3 y4 s = some res → mG ρ (mC ρ (d + 3)) 10 5 cX10_still (some .int) P 34 [(0, .ref qT), (3, .ref (qS j3)), (4, .int y4)] [] (V s) := by
  intro k
  induction k with
  | zero => intro j3 hj3 y4 s hf; rw [fX10_still_b34] at hf; cases hf
  | succ k ih =>
    intro j3 hj3 y4 s hf
    rw [fX10_still_b34] at hf
    refine e_iload 2 dX10_still_34 rfl ?_
    refine e_bipush (w := (nI 99)) dX10_still_36 (by decide) ?_
    refine e_icmp_gt 58 dX10_still_38 (by decide) hf (fun hf => ?_) (fun hf => ?_)
    · refine e_bipush (w := (-2)) dX10_still_58 (by decide) ?_
      obtain rfl := Option.some.inj hf
      exact e_iret dX10_still_60 trivial hP
    · refine e_aload_n 0 dX10_still_41 rfl rfl ?_
      refine e_aload_n 1 dX10_still_42 rfl rfl ?_
      obtain ⟨r6, s7, hg, hf⟩ := bP_some hf
      refine e_callV (as := [.ref (qS j3)]) (v := (some (.int r6))) (s' := s7) hV dX10_still_43 (Or.inl rfl) rfl rfl rfl rfl (Nat.le_of_ble_eq_true rfl) lc_T rfl rfl (fun Q hQ => tX10_playRound (d := d) hV hj3 hg hQ) ?_
      refine e_if_ne 52 dX10_still_46 (by decide) hf (fun hf => ?_) (fun hf => ?_)
      · refine e_iinc 2 dX10_still_52 (by decide) rfl hf (fun v8 hf => ?_)
        refine e_goto 34 dX10_still_55 (by decide) ?_
        refine e_pick [1, 2, 0] rfl ?_
        exact ih j3 hj3 v8 s7 hf
      · refine e_iload 2 dX10_still_49 rfl ?_
        obtain rfl := Option.some.inj hf
        exact e_iret dX10_still_51 trivial hP
set_option maxRecDepth 20000 in
theorem tX10_still {ρ : mRo} {d : Nat} {P : mPo} {V : mS → List mE} (hV : mView LC V)  {x1 : Int32} {s : mS} {res : (Int32 × mS)} (hf : fX10_still x1 s = some res) (hP : P (some (.int res.1)) (V res.2)) : mC ρ (d + 4) 74 [.ref qT, .int x1] (V s) P := by
  refine ⟨_, rfl, Nat.le_of_ble_eq_true rfl, by decide, ?_⟩
  show mG ρ (mC ρ (d + 3)) 10 5 cX10_still (some .int) P 0 [(0, .ref qT), (1, .int x1)] [] (V s)
  unfold fX10_still at hf
  refine e_aload_n 0 dX10_still_0 rfl rfl ?_
  refine e_iload_n 1 dX10_still_1 rfl rfl ?_
  refine e_iconst (w := (nI 0)) dX10_still_2 (by decide) ?_
  obtain ⟨r1, hg, hf⟩ := bO_some hf
  refine e_callV (as := [.int x1, .int (nI 0)]) (v := (some (.int r1))) (s' := s) hV dX10_still_3 (Or.inl rfl) rfl rfl rfl rfl (Nat.le_of_ble_eq_true rfl) lc_T rfl rfl (fun Q hQ => tX10_rowRefusal (d := (d + 1)) hV  hg hQ) ?_
  refine e_istore_n dX10_still_6 rfl (by decide) hf (fun v2 hf => ?_)
  refine e_iload_n 0 dX10_still_7 rfl rfl ?_
  refine e_if_eq 13 dX10_still_8 (by decide) hf (fun hf => ?_) (fun hf => ?_)
  · refine e_aload_n 1 dX10_still_13 rfl rfl ?_
    refine e_getr hV dX10_still_14 rfl lc_T rfl ?_
    refine e_iload_n 2 dX10_still_17 rfl rfl ?_
    refine e_aald hV dX10_still_18 lc_T_shelves rfl lc_T_shelves_at hf (fun j3 hj3 hf => ?_)
    refine e_astore_n dX10_still_19 rfl (by decide) ?_
    refine e_aload_n 2 dX10_still_20 rfl rfl ?_
    refine e_getr hV dX10_still_21 rfl lc_T rfl ?_
    refine e_aload_n 2 dX10_still_24 rfl rfl ?_
    refine e_getr hV dX10_still_25 rfl lc_T rfl ?_
    obtain ⟨s4, hg, hf⟩ := bO_some hf
    refine e_callV (as := [.ref (qM 0)]) (v := none) (s' := s4) hV dX10_still_28 (Or.inl rfl) rfl rfl rfl rfl (Nat.le_of_ble_eq_true rfl) (lc_M (by decide)) rfl rfl (fun Q hQ => tX6_copy (d := (d + 1)) hV (by decide) (by decide) hg hQ) ?_
    refine e_iconst (w := (nI 0)) dX10_still_31 (by decide) ?_
    refine e_istore dX10_still_32 (by decide) hf (fun v5 hf => ?_)
    refine e_pick [3, 1, 0] rfl ?_
    exact wX10_still_b34 hV hP mFu j3 hj3 v5 s4 hf
  · refine e_iload_n 0 dX10_still_11 rfl rfl ?_
    obtain rfl := Option.some.inj hf
    exact e_iret dX10_still_12 trivial hP

theorem dX10_apart_0 : decode cX10_apart 0 = .ok (.iconst 0, 1) := by decide +kernel
theorem dX10_apart_1 : decode cX10_apart 1 = .ok (.istore 4, 2) := by decide +kernel
theorem dX10_apart_3 : decode cX10_apart 3 = .ok (.iconst 0, 1) := by decide +kernel
theorem dX10_apart_4 : decode cX10_apart 4 = .ok (.istore 5, 2) := by decide +kernel
theorem dX10_apart_6 : decode cX10_apart 6 = .ok (.iload 5, 2) := by decide +kernel
theorem dX10_apart_8 : decode cX10_apart 8 = .ok (.iconst 3, 1) := by decide +kernel
theorem dX10_apart_9 : decode cX10_apart 9 = .ok (.if_icmp .ge 35, 3) := by decide +kernel
theorem dX10_apart_12 : decode cX10_apart 12 = .ok (.iload 4, 2) := by decide +kernel
theorem dX10_apart_14 : decode cX10_apart 14 = .ok (.aload_n 0, 1) := by decide +kernel
theorem dX10_apart_15 : decode cX10_apart 15 = .ok (.getfield 22, 3) := by decide +kernel
theorem dX10_apart_18 : decode cX10_apart 18 = .ok (.iload_n 2, 1) := by decide +kernel
theorem dX10_apart_19 : decode cX10_apart 19 = .ok (.iload 5, 2) := by decide +kernel
theorem dX10_apart_21 : decode cX10_apart 21 = .ok (.invokevirtual 223, 3) := by decide +kernel
theorem dX10_apart_24 : decode cX10_apart 24 = .ok (.aload_n 1, 1) := by decide +kernel
theorem dX10_apart_25 : decode cX10_apart 25 = .ok (.iload_n 3, 1) := by decide +kernel
theorem dX10_apart_26 : decode cX10_apart 26 = .ok (.iload 5, 2) := by decide +kernel
theorem dX10_apart_28 : decode cX10_apart 28 = .ok (.invokevirtual 187, 3) := by decide +kernel
theorem dX10_apart_31 : decode cX10_apart 31 = .ok (.isub, 1) := by decide +kernel
theorem dX10_apart_32 : decode cX10_apart 32 = .ok (.invokestatic 416, 3) := by decide +kernel
theorem dX10_apart_35 : decode cX10_apart 35 = .ok (.iadd, 1) := by decide +kernel
theorem dX10_apart_36 : decode cX10_apart 36 = .ok (.istore 4, 2) := by decide +kernel
theorem dX10_apart_38 : decode cX10_apart 38 = .ok (.iinc 5 1, 3) := by decide +kernel
theorem dX10_apart_41 : decode cX10_apart 41 = .ok (.goto (-35), 3) := by decide +kernel
theorem dX10_apart_44 : decode cX10_apart 44 = .ok (.iload 4, 2) := by decide +kernel
theorem dX10_apart_46 : decode cX10_apart 46 = .ok (.ireturn, 1) := by decide +kernel
def fX10_apart_b6 : Nat → Nat → Int32 → Int32 → Int32 → Int32 → mS → Option Int32
  | 0, _, _, _, _, _, _ => none
  | k + 1, k1, y2, y3, y4, y5, s =>
    if (nI 3) ≤ y5 then
      some y4
    else
      bO (fX9_hand 0 y2 y5 s) fun r3 =>
      bO (fX6_pull k1 y3 y5 s) fun r4 =>
      bnd (y4 + (if 0 ≤ (r3 - r4) then (r3 - r4) else 0 - (r3 - r4))) fun v5 =>
      bnd (y5 + (nI 1)) fun v6 =>
      fX10_apart_b6 k k1 y2 y3 v5 v6 s

def fX10_apart (k1 : Nat) (x2 : Int32) (x3 : Int32) (s : mS) : Option Int32 :=
  bnd (nI 0) fun v1 =>
  bnd (nI 0) fun v2 =>
  fX10_apart_b6 mFu k1 x2 x3 v1 v2 s

set_option maxRecDepth 20000 in
theorem wX10_apart_b6 {ρ : mRo} {d : Nat} {P : mPo} {V : mS → List mE} (hV : mView LC V)  {res : Int32} {s : mS} (hP : P (some (.int res)) (V s)) : ∀ (k : Nat) (k1 : Nat) (hk1 : k1 < 3) (y2 : Int32) (y3 : Int32) (y4 : Int32) (y5 : Int32), fX10_apart_b6 k k1 y2 y3 y4 y5 s = some res → mG ρ (mC ρ (d + 1)) 10 6 cX10_apart (some .int) P 6 [(0, .ref qT), (1, .ref (qM k1)), (2, .int y2), (3, .int y3), (4, .int y4), (5, .int y5)] [] (V s) := by
  intro k
  induction k with
  | zero => intro k1 hk1 y2 y3 y4 y5 hf; rw [fX10_apart_b6] at hf; cases hf
  | succ k ih =>
    intro k1 hk1 y2 y3 y4 y5 hf
    rw [fX10_apart_b6] at hf
    refine e_iload 5 dX10_apart_6 rfl ?_
    refine e_iconst (w := (nI 3)) dX10_apart_8 (by decide) ?_
    refine e_icmp_ge 44 dX10_apart_9 (by decide) hf (fun hf => ?_) (fun hf => ?_)
    · refine e_iload 4 dX10_apart_44 rfl ?_
      obtain rfl := Option.some.inj hf
      exact e_iret dX10_apart_46 trivial hP
    · refine e_iload 4 dX10_apart_12 rfl ?_
      refine e_aload_n 0 dX10_apart_14 rfl rfl ?_
      refine e_getr hV dX10_apart_15 rfl lc_T rfl ?_
      refine e_iload_n 2 dX10_apart_18 rfl rfl ?_
      refine e_iload 5 dX10_apart_19 rfl ?_
      obtain ⟨r3, hg, hf⟩ := bO_some hf
      refine e_callV (as := [.int y2, .int y5]) (v := (some (.int r3))) (s' := s) hV dX10_apart_21 (Or.inl rfl) rfl rfl rfl rfl (Nat.le_of_ble_eq_true rfl) (lc_W (by decide)) rfl rfl (fun Q hQ => tX9_hand (d := d) hV (by decide) hg hQ) ?_
      refine e_aload_n 1 dX10_apart_24 rfl rfl ?_
      refine e_iload_n 3 dX10_apart_25 rfl rfl ?_
      refine e_iload 5 dX10_apart_26 rfl ?_
      obtain ⟨r4, hg, hf⟩ := bO_some hf
      refine e_callV (as := [.int y3, .int y5]) (v := (some (.int r4))) (s' := s) hV dX10_apart_28 (Or.inl rfl) rfl rfl rfl rfl (Nat.le_of_ble_eq_true rfl) (lc_M hk1) rfl rfl (fun Q hQ => tX6_pull (d := d) hV hk1 hg hQ) ?_
      refine e_isub dX10_apart_31 ?_
      refine e_abs dX10_apart_32 rfl (Nat.le_of_ble_eq_true rfl) ?_
      refine e_iadd dX10_apart_35 ?_
      refine e_istore dX10_apart_36 (by decide) hf (fun v5 hf => ?_)
      refine e_iinc 5 dX10_apart_38 (by decide) rfl hf (fun v6 hf => ?_)
      refine e_goto 6 dX10_apart_41 (by decide) ?_
      refine e_pick [2, 3, 4, 5, 1, 0] rfl ?_
      exact ih k1 hk1 y2 y3 v5 v6 hf
set_option maxRecDepth 20000 in
theorem tX10_apart {ρ : mRo} {d : Nat} {P : mPo} {V : mS → List mE} (hV : mView LC V)  {k1 : Nat} (hk1 : k1 < 3) {x2 : Int32} {x3 : Int32} {s : mS} {res : Int32} (hf : fX10_apart k1 x2 x3 s = some res) (hP : P (some (.int res)) (V s)) : mC ρ (d + 2) 126 [.ref qT, .ref (qM k1), .int x2, .int x3] (V s) P := by
  refine ⟨_, rfl, Nat.le_of_ble_eq_true rfl, by decide, ?_⟩
  show mG ρ (mC ρ (d + 1)) 10 6 cX10_apart (some .int) P 0 [(0, .ref qT), (1, .ref (qM k1)), (2, .int x2), (3, .int x3)] [] (V s)
  unfold fX10_apart at hf
  refine e_iconst (w := (nI 0)) dX10_apart_0 (by decide) ?_
  refine e_istore dX10_apart_1 (by decide) hf (fun v1 hf => ?_)
  refine e_iconst (w := (nI 0)) dX10_apart_3 (by decide) ?_
  refine e_istore dX10_apart_4 (by decide) hf (fun v2 hf => ?_)
  refine e_pick [2, 3, 4, 5, 1, 0] rfl ?_
  exact wX10_apart_b6 hV hP mFu k1 hk1 x2 x3 v1 v2 hf

theorem dX10_far_0 : decode cX10_far 0 = .ok (.aload_n 0, 1) := by decide +kernel
theorem dX10_far_1 : decode cX10_far 1 = .ok (.iload_n 1, 1) := by decide +kernel
theorem dX10_far_2 : decode cX10_far 2 = .ok (.invokevirtual 164, 3) := by decide +kernel
theorem dX10_far_5 : decode cX10_far 5 = .ok (.ifCond .eq 22, 3) := by decide +kernel
theorem dX10_far_8 : decode cX10_far 8 = .ok (.aload_n 0, 1) := by decide +kernel
theorem dX10_far_9 : decode cX10_far 9 = .ok (.aload_n 0, 1) := by decide +kernel
theorem dX10_far_10 : decode cX10_far 10 = .ok (.getfield 10, 3) := by decide +kernel
theorem dX10_far_13 : decode cX10_far 13 = .ok (.iload_n 1, 1) := by decide +kernel
theorem dX10_far_14 : decode cX10_far 14 = .ok (.bipush 10, 2) := by decide +kernel
theorem dX10_far_16 : decode cX10_far 16 = .ok (.idiv, 1) := by decide +kernel
theorem dX10_far_17 : decode cX10_far 17 = .ok (.iload_n 1, 1) := by decide +kernel
theorem dX10_far_18 : decode cX10_far 18 = .ok (.bipush 10, 2) := by decide +kernel
theorem dX10_far_20 : decode cX10_far 20 = .ok (.irem, 1) := by decide +kernel
theorem dX10_far_21 : decode cX10_far 21 = .ok (.invokevirtual 205, 3) := by decide +kernel
theorem dX10_far_24 : decode cX10_far 24 = .ok (.goto 4, 3) := by decide +kernel
theorem dX10_far_27 : decode cX10_far 27 = .ok (.iconst (-1), 1) := by decide +kernel
theorem dX10_far_28 : decode cX10_far 28 = .ok (.ireturn, 1) := by decide +kernel
def fX10_far (x1 : Int32) (s : mS) : Option Int32 :=
  bO (fX10_isPair x1 s) fun r1 =>
  if r1 = 0 then
    some (-1)
  else
    bO (fX10_apart 0 (x1 / (nI 10)) (x1 - x1 / (nI 10) * (nI 10)) s) fun r2 =>
    some r2

set_option maxRecDepth 20000 in
theorem tX10_far {ρ : mRo} {d : Nat} {P : mPo} {V : mS → List mE} (hV : mView LC V)  {x1 : Int32} {s : mS} {res : Int32} (hf : fX10_far x1 s = some res) (hP : P (some (.int res)) (V s)) : mC ρ (d + 3) 75 [.ref qT, .int x1] (V s) P := by
  refine ⟨_, rfl, Nat.le_of_ble_eq_true rfl, by decide, ?_⟩
  show mG ρ (mC ρ (d + 2)) 10 2 cX10_far (some .int) P 0 [(0, .ref qT), (1, .int x1)] [] (V s)
  unfold fX10_far at hf
  refine e_aload_n 0 dX10_far_0 rfl rfl ?_
  refine e_iload_n 1 dX10_far_1 rfl rfl ?_
  obtain ⟨r1, hg, hf⟩ := bO_some hf
  refine e_callV (as := [.int x1]) (v := (some (.int r1))) (s' := s) hV dX10_far_2 (Or.inl rfl) rfl rfl rfl rfl (Nat.le_of_ble_eq_true rfl) lc_T rfl rfl (fun Q hQ => tX10_isPair (d := d) hV  hg hQ) ?_
  refine e_if_eq 27 dX10_far_5 (by decide) hf (fun hf => ?_) (fun hf => ?_)
  · refine e_iconst (w := (-1)) dX10_far_27 (by decide) ?_
    obtain rfl := Option.some.inj hf
    exact e_iret dX10_far_28 trivial hP
  · refine e_aload_n 0 dX10_far_8 rfl rfl ?_
    refine e_aload_n 0 dX10_far_9 rfl rfl ?_
    refine e_getr hV dX10_far_10 rfl lc_T rfl ?_
    refine e_iload_n 1 dX10_far_13 rfl rfl ?_
    refine e_bipush (w := (nI 10)) dX10_far_14 (by decide) ?_
    refine e_idiv dX10_far_16 (by decide) ?_
    refine e_iload_n 1 dX10_far_17 rfl rfl ?_
    refine e_bipush (w := (nI 10)) dX10_far_18 (by decide) ?_
    refine e_irem dX10_far_20 (by decide) ?_
    obtain ⟨r2, hg, hf⟩ := bO_some hf
    refine e_callV (as := [.ref (qM 0), .int (x1 / (nI 10)), .int (x1 - x1 / (nI 10) * (nI 10))]) (v := (some (.int r2))) (s' := s) hV dX10_far_21 (Or.inl rfl) rfl rfl rfl rfl (Nat.le_of_ble_eq_true rfl) lc_T rfl rfl (fun Q hQ => tX10_apart (d := d) hV (by decide) hg hQ) ?_
    refine e_goto 28 dX10_far_24 (by decide) ?_
    obtain rfl := Option.some.inj hf
    exact e_iret dX10_far_28 trivial hP

theorem dX10_nearestMachine_0 : decode cX10_nearestMachine 0 = .ok (.bipush (-2), 2) := by decide +kernel
theorem dX10_nearestMachine_2 : decode cX10_nearestMachine 2 = .ok (.istore_n 2, 1) := by decide +kernel
theorem dX10_nearestMachine_3 : decode cX10_nearestMachine 3 = .ok (.iconst 0, 1) := by decide +kernel
theorem dX10_nearestMachine_4 : decode cX10_nearestMachine 4 = .ok (.istore_n 3, 1) := by decide +kernel
theorem dX10_nearestMachine_5 : decode cX10_nearestMachine 5 = .ok (.iload_n 3, 1) := by decide +kernel
theorem dX10_nearestMachine_6 : decode cX10_nearestMachine 6 = .ok (.aload_n 0, 1) := by decide +kernel
theorem dX10_nearestMachine_7 : decode cX10_nearestMachine 7 = .ok (.getfield 10, 3) := by decide +kernel
theorem dX10_nearestMachine_10 : decode cX10_nearestMachine 10 = .ok (.getfield 216, 3) := by decide +kernel
theorem dX10_nearestMachine_13 : decode cX10_nearestMachine 13 = .ok (.if_icmp .ge 38, 3) := by decide +kernel
theorem dX10_nearestMachine_16 : decode cX10_nearestMachine 16 = .ok (.iload_n 2, 1) := by decide +kernel
theorem dX10_nearestMachine_17 : decode cX10_nearestMachine 17 = .ok (.ifCond .lt 26, 3) := by decide +kernel
theorem dX10_nearestMachine_20 : decode cX10_nearestMachine 20 = .ok (.aload_n 0, 1) := by decide +kernel
theorem dX10_nearestMachine_21 : decode cX10_nearestMachine 21 = .ok (.aload_n 0, 1) := by decide +kernel
theorem dX10_nearestMachine_22 : decode cX10_nearestMachine 22 = .ok (.getfield 10, 3) := by decide +kernel
theorem dX10_nearestMachine_25 : decode cX10_nearestMachine 25 = .ok (.iload_n 1, 1) := by decide +kernel
theorem dX10_nearestMachine_26 : decode cX10_nearestMachine 26 = .ok (.iload_n 3, 1) := by decide +kernel
theorem dX10_nearestMachine_27 : decode cX10_nearestMachine 27 = .ok (.invokevirtual 205, 3) := by decide +kernel
theorem dX10_nearestMachine_30 : decode cX10_nearestMachine 30 = .ok (.aload_n 0, 1) := by decide +kernel
theorem dX10_nearestMachine_31 : decode cX10_nearestMachine 31 = .ok (.aload_n 0, 1) := by decide +kernel
theorem dX10_nearestMachine_32 : decode cX10_nearestMachine 32 = .ok (.getfield 10, 3) := by decide +kernel
theorem dX10_nearestMachine_35 : decode cX10_nearestMachine 35 = .ok (.iload_n 1, 1) := by decide +kernel
theorem dX10_nearestMachine_36 : decode cX10_nearestMachine 36 = .ok (.iload_n 2, 1) := by decide +kernel
theorem dX10_nearestMachine_37 : decode cX10_nearestMachine 37 = .ok (.invokevirtual 205, 3) := by decide +kernel
theorem dX10_nearestMachine_40 : decode cX10_nearestMachine 40 = .ok (.if_icmp .ge 5, 3) := by decide +kernel
theorem dX10_nearestMachine_43 : decode cX10_nearestMachine 43 = .ok (.iload_n 3, 1) := by decide +kernel
theorem dX10_nearestMachine_44 : decode cX10_nearestMachine 44 = .ok (.istore_n 2, 1) := by decide +kernel
theorem dX10_nearestMachine_45 : decode cX10_nearestMachine 45 = .ok (.iinc 3 1, 3) := by decide +kernel
theorem dX10_nearestMachine_48 : decode cX10_nearestMachine 48 = .ok (.goto (-43), 3) := by decide +kernel
theorem dX10_nearestMachine_51 : decode cX10_nearestMachine 51 = .ok (.iload_n 2, 1) := by decide +kernel
theorem dX10_nearestMachine_52 : decode cX10_nearestMachine 52 = .ok (.ireturn, 1) := by decide +kernel
def fX10_nearestMachine_b45 (K5 : Int32 → Int32 → Int32 → mS → Option Int32) (y1 : Int32) (y2 : Int32) (y3 : Int32) (s : mS) : Option Int32 :=
  bnd (y3 + (nI 1)) fun v4 =>
  K5 y1 y2 v4 s

def fX10_nearestMachine_b43 (K5 : Int32 → Int32 → Int32 → mS → Option Int32) (y1 : Int32) (y3 : Int32) (s : mS) : Option Int32 :=
  bnd y3 fun v3 =>
  fX10_nearestMachine_b45 K5 y1 v3 y3 s

def fX10_nearestMachine_b5 : Nat → Int32 → Int32 → Int32 → mS → Option Int32
  | 0, _, _, _, _ => none
  | k + 1, y1, y2, y3, s =>
    if (gI s (iM_size 0)) ≤ y3 then
      some y2
    else
      if y2 < 0 then
        fX10_nearestMachine_b43 (fun u0 u1 u2 u3 => fX10_nearestMachine_b5 k u0 u1 u2 u3) y1 y3 s
      else
        bO (fX10_apart 0 y1 y3 s) fun r5 =>
        bO (fX10_apart 0 y1 y2 s) fun r6 =>
        if r6 ≤ r5 then
          fX10_nearestMachine_b45 (fun u0 u1 u2 u3 => fX10_nearestMachine_b5 k u0 u1 u2 u3) y1 y2 y3 s
        else
          fX10_nearestMachine_b43 (fun u0 u1 u2 u3 => fX10_nearestMachine_b5 k u0 u1 u2 u3) y1 y3 s

def fX10_nearestMachine (x1 : Int32) (s : mS) : Option Int32 :=
  bnd (-2) fun v1 =>
  bnd (nI 0) fun v2 =>
  fX10_nearestMachine_b5 mFu x1 v1 v2 s

set_option maxRecDepth 20000 in
theorem wX10_nearestMachine_b45 {ρ : mRo} {d : Nat} {P : mPo} {V : mS → List mE} (hV : mView LC V)  {res : Int32} {s : mS} {K5 : Int32 → Int32 → Int32 → mS → Option Int32} (hK5 : ∀ (y1 : Int32) (y2 : Int32) (y3 : Int32), K5 y1 y2 y3 s = some res → mG ρ (mC ρ (d + 2)) 10 4 cX10_nearestMachine (some .int) P 5 [(0, .ref qT), (1, .int y1), (2, .int y2), (3, .int y3)] [] (V s)) (hP : P (some (.int res)) (V s)) (y1 : Int32) (y2 : Int32) (y3 : Int32) (hf : fX10_nearestMachine_b45 K5 y1 y2 y3 s = some res) : mG ρ (mC ρ (d + 2)) 10 4 cX10_nearestMachine (some .int) P 45 [(0, .ref qT), (1, .int y1), (2, .int y2), (3, .int y3)] [] (V s) := by
  unfold fX10_nearestMachine_b45 at hf
  refine e_iinc 3 dX10_nearestMachine_45 (by decide) rfl hf (fun v4 hf => ?_)
  refine e_goto 5 dX10_nearestMachine_48 (by decide) ?_
  refine e_pick [1, 2, 3, 0] rfl ?_
  exact hK5 y1 y2 v4 hf
set_option maxRecDepth 20000 in
theorem wX10_nearestMachine_b43 {ρ : mRo} {d : Nat} {P : mPo} {V : mS → List mE} (hV : mView LC V)  {res : Int32} {s : mS} {K5 : Int32 → Int32 → Int32 → mS → Option Int32} (hK5 : ∀ (y1 : Int32) (y2 : Int32) (y3 : Int32), K5 y1 y2 y3 s = some res → mG ρ (mC ρ (d + 2)) 10 4 cX10_nearestMachine (some .int) P 5 [(0, .ref qT), (1, .int y1), (2, .int y2), (3, .int y3)] [] (V s)) (hP : P (some (.int res)) (V s)) (y1 : Int32) (y3 : Int32) (hf : fX10_nearestMachine_b43 K5 y1 y3 s = some res) : mG ρ (mC ρ (d + 2)) 10 4 cX10_nearestMachine (some .int) P 43 [(0, .ref qT), (1, .int y1), (3, .int y3)] [] (V s) := by
  unfold fX10_nearestMachine_b43 at hf
  refine e_iload_n 2 dX10_nearestMachine_43 rfl rfl ?_
  refine e_istore_n dX10_nearestMachine_44 rfl (by decide) hf (fun v3 hf => ?_)
  refine e_pick [1, 2, 0, 3] rfl ?_
  exact wX10_nearestMachine_b45 hV hK5 hP y1 v3 y3 hf
set_option maxRecDepth 20000 in
theorem wX10_nearestMachine_b5 {ρ : mRo} {d : Nat} {P : mPo} {V : mS → List mE} (hV : mView LC V)  {res : Int32} {s : mS} (hP : P (some (.int res)) (V s)) : ∀ (k : Nat) (y1 : Int32) (y2 : Int32) (y3 : Int32), fX10_nearestMachine_b5 k y1 y2 y3 s = some res → mG ρ (mC ρ (d + 2)) 10 4 cX10_nearestMachine (some .int) P 5 [(0, .ref qT), (1, .int y1), (2, .int y2), (3, .int y3)] [] (V s) := by
  intro k
  induction k with
  | zero => intro y1 y2 y3 hf; rw [fX10_nearestMachine_b5] at hf; cases hf
  | succ k ih =>
    intro y1 y2 y3 hf
    rw [fX10_nearestMachine_b5] at hf
    refine e_iload_n 3 dX10_nearestMachine_5 rfl rfl ?_
    refine e_aload_n 0 dX10_nearestMachine_6 rfl rfl ?_
    refine e_getr hV dX10_nearestMachine_7 rfl lc_T rfl ?_
    refine e_geti hV dX10_nearestMachine_10 rfl (lc_M (by decide)) rfl ?_
    refine e_icmp_ge 51 dX10_nearestMachine_13 (by decide) hf (fun hf => ?_) (fun hf => ?_)
    · refine e_iload_n 2 dX10_nearestMachine_51 rfl rfl ?_
      obtain rfl := Option.some.inj hf
      exact e_iret dX10_nearestMachine_52 trivial hP
    · refine e_iload_n 2 dX10_nearestMachine_16 rfl rfl ?_
      refine e_if_lt 43 dX10_nearestMachine_17 (by decide) hf (fun hf => ?_) (fun hf => ?_)
      · refine e_pick [0, 1, 3] rfl ?_
        exact wX10_nearestMachine_b43 hV ih hP y1 y3 hf
      · refine e_aload_n 0 dX10_nearestMachine_20 rfl rfl ?_
        refine e_aload_n 0 dX10_nearestMachine_21 rfl rfl ?_
        refine e_getr hV dX10_nearestMachine_22 rfl lc_T rfl ?_
        refine e_iload_n 1 dX10_nearestMachine_25 rfl rfl ?_
        refine e_iload_n 3 dX10_nearestMachine_26 rfl rfl ?_
        obtain ⟨r5, hg, hf⟩ := bO_some hf
        refine e_callV (as := [.ref (qM 0), .int y1, .int y3]) (v := (some (.int r5))) (s' := s) hV dX10_nearestMachine_27 (Or.inl rfl) rfl rfl rfl rfl (Nat.le_of_ble_eq_true rfl) lc_T rfl rfl (fun Q hQ => tX10_apart (d := d) hV (by decide) hg hQ) ?_
        refine e_aload_n 0 dX10_nearestMachine_30 rfl rfl ?_
        refine e_aload_n 0 dX10_nearestMachine_31 rfl rfl ?_
        refine e_getr hV dX10_nearestMachine_32 rfl lc_T rfl ?_
        refine e_iload_n 1 dX10_nearestMachine_35 rfl rfl ?_
        refine e_iload_n 2 dX10_nearestMachine_36 rfl rfl ?_
        obtain ⟨r6, hg, hf⟩ := bO_some hf
        refine e_callV (as := [.ref (qM 0), .int y1, .int y2]) (v := (some (.int r6))) (s' := s) hV dX10_nearestMachine_37 (Or.inl rfl) rfl rfl rfl rfl (Nat.le_of_ble_eq_true rfl) lc_T rfl rfl (fun Q hQ => tX10_apart (d := d) hV (by decide) hg hQ) ?_
        refine e_icmp_ge 45 dX10_nearestMachine_40 (by decide) hf (fun hf => ?_) (fun hf => ?_)
        · refine e_pick [0, 1, 2, 3] rfl ?_
          exact wX10_nearestMachine_b45 hV ih hP y1 y2 y3 hf
        · refine e_pick [0, 1, 3] rfl ?_
          exact wX10_nearestMachine_b43 hV ih hP y1 y3 hf
set_option maxRecDepth 20000 in
theorem tX10_nearestMachine {ρ : mRo} {d : Nat} {P : mPo} {V : mS → List mE} (hV : mView LC V)  {x1 : Int32} {s : mS} {res : Int32} (hf : fX10_nearestMachine x1 s = some res) (hP : P (some (.int res)) (V s)) : mC ρ (d + 3) 128 [.ref qT, .int x1] (V s) P := by
  refine ⟨_, rfl, Nat.le_of_ble_eq_true rfl, by decide, ?_⟩
  show mG ρ (mC ρ (d + 2)) 10 4 cX10_nearestMachine (some .int) P 0 [(0, .ref qT), (1, .int x1)] [] (V s)
  unfold fX10_nearestMachine at hf
  refine e_bipush (w := (-2)) dX10_nearestMachine_0 (by decide) ?_
  refine e_istore_n dX10_nearestMachine_2 rfl (by decide) hf (fun v1 hf => ?_)
  refine e_iconst (w := (nI 0)) dX10_nearestMachine_3 (by decide) ?_
  refine e_istore_n dX10_nearestMachine_4 rfl (by decide) hf (fun v2 hf => ?_)
  refine e_pick [2, 3, 1, 0] rfl ?_
  exact wX10_nearestMachine_b5 hV hP mFu x1 v1 v2 hf

theorem dX10_nearestWriter_0 : decode cX10_nearestWriter 0 = .ok (.bipush (-2), 2) := by decide +kernel
theorem dX10_nearestWriter_2 : decode cX10_nearestWriter 2 = .ok (.istore_n 2, 1) := by decide +kernel
theorem dX10_nearestWriter_3 : decode cX10_nearestWriter 3 = .ok (.iconst 0, 1) := by decide +kernel
theorem dX10_nearestWriter_4 : decode cX10_nearestWriter 4 = .ok (.istore_n 3, 1) := by decide +kernel
theorem dX10_nearestWriter_5 : decode cX10_nearestWriter 5 = .ok (.iload_n 3, 1) := by decide +kernel
theorem dX10_nearestWriter_6 : decode cX10_nearestWriter 6 = .ok (.aload_n 0, 1) := by decide +kernel
theorem dX10_nearestWriter_7 : decode cX10_nearestWriter 7 = .ok (.getfield 22, 3) := by decide +kernel
theorem dX10_nearestWriter_10 : decode cX10_nearestWriter 10 = .ok (.getfield 215, 3) := by decide +kernel
theorem dX10_nearestWriter_13 : decode cX10_nearestWriter 13 = .ok (.if_icmp .ge 38, 3) := by decide +kernel
theorem dX10_nearestWriter_16 : decode cX10_nearestWriter 16 = .ok (.iload_n 2, 1) := by decide +kernel
theorem dX10_nearestWriter_17 : decode cX10_nearestWriter 17 = .ok (.ifCond .lt 26, 3) := by decide +kernel
theorem dX10_nearestWriter_20 : decode cX10_nearestWriter 20 = .ok (.aload_n 0, 1) := by decide +kernel
theorem dX10_nearestWriter_21 : decode cX10_nearestWriter 21 = .ok (.aload_n 0, 1) := by decide +kernel
theorem dX10_nearestWriter_22 : decode cX10_nearestWriter 22 = .ok (.getfield 10, 3) := by decide +kernel
theorem dX10_nearestWriter_25 : decode cX10_nearestWriter 25 = .ok (.iload_n 3, 1) := by decide +kernel
theorem dX10_nearestWriter_26 : decode cX10_nearestWriter 26 = .ok (.iload_n 1, 1) := by decide +kernel
theorem dX10_nearestWriter_27 : decode cX10_nearestWriter 27 = .ok (.invokevirtual 205, 3) := by decide +kernel
theorem dX10_nearestWriter_30 : decode cX10_nearestWriter 30 = .ok (.aload_n 0, 1) := by decide +kernel
theorem dX10_nearestWriter_31 : decode cX10_nearestWriter 31 = .ok (.aload_n 0, 1) := by decide +kernel
theorem dX10_nearestWriter_32 : decode cX10_nearestWriter 32 = .ok (.getfield 10, 3) := by decide +kernel
theorem dX10_nearestWriter_35 : decode cX10_nearestWriter 35 = .ok (.iload_n 2, 1) := by decide +kernel
theorem dX10_nearestWriter_36 : decode cX10_nearestWriter 36 = .ok (.iload_n 1, 1) := by decide +kernel
theorem dX10_nearestWriter_37 : decode cX10_nearestWriter 37 = .ok (.invokevirtual 205, 3) := by decide +kernel
theorem dX10_nearestWriter_40 : decode cX10_nearestWriter 40 = .ok (.if_icmp .ge 5, 3) := by decide +kernel
theorem dX10_nearestWriter_43 : decode cX10_nearestWriter 43 = .ok (.iload_n 3, 1) := by decide +kernel
theorem dX10_nearestWriter_44 : decode cX10_nearestWriter 44 = .ok (.istore_n 2, 1) := by decide +kernel
theorem dX10_nearestWriter_45 : decode cX10_nearestWriter 45 = .ok (.iinc 3 1, 3) := by decide +kernel
theorem dX10_nearestWriter_48 : decode cX10_nearestWriter 48 = .ok (.goto (-43), 3) := by decide +kernel
theorem dX10_nearestWriter_51 : decode cX10_nearestWriter 51 = .ok (.iload_n 2, 1) := by decide +kernel
theorem dX10_nearestWriter_52 : decode cX10_nearestWriter 52 = .ok (.ireturn, 1) := by decide +kernel
def fX10_nearestWriter_b45 (K5 : Int32 → Int32 → Int32 → mS → Option Int32) (y1 : Int32) (y2 : Int32) (y3 : Int32) (s : mS) : Option Int32 :=
  bnd (y3 + (nI 1)) fun v4 =>
  K5 y1 y2 v4 s

def fX10_nearestWriter_b43 (K5 : Int32 → Int32 → Int32 → mS → Option Int32) (y1 : Int32) (y3 : Int32) (s : mS) : Option Int32 :=
  bnd y3 fun v3 =>
  fX10_nearestWriter_b45 K5 y1 v3 y3 s

def fX10_nearestWriter_b5 : Nat → Int32 → Int32 → Int32 → mS → Option Int32
  | 0, _, _, _, _ => none
  | k + 1, y1, y2, y3, s =>
    if (gI s (iW_size 0)) ≤ y3 then
      some y2
    else
      if y2 < 0 then
        fX10_nearestWriter_b43 (fun u0 u1 u2 u3 => fX10_nearestWriter_b5 k u0 u1 u2 u3) y1 y3 s
      else
        bO (fX10_apart 0 y3 y1 s) fun r5 =>
        bO (fX10_apart 0 y2 y1 s) fun r6 =>
        if r6 ≤ r5 then
          fX10_nearestWriter_b45 (fun u0 u1 u2 u3 => fX10_nearestWriter_b5 k u0 u1 u2 u3) y1 y2 y3 s
        else
          fX10_nearestWriter_b43 (fun u0 u1 u2 u3 => fX10_nearestWriter_b5 k u0 u1 u2 u3) y1 y3 s

def fX10_nearestWriter (x1 : Int32) (s : mS) : Option Int32 :=
  bnd (-2) fun v1 =>
  bnd (nI 0) fun v2 =>
  fX10_nearestWriter_b5 mFu x1 v1 v2 s

set_option maxRecDepth 20000 in
theorem wX10_nearestWriter_b45 {ρ : mRo} {d : Nat} {P : mPo} {V : mS → List mE} (hV : mView LC V)  {res : Int32} {s : mS} {K5 : Int32 → Int32 → Int32 → mS → Option Int32} (hK5 : ∀ (y1 : Int32) (y2 : Int32) (y3 : Int32), K5 y1 y2 y3 s = some res → mG ρ (mC ρ (d + 2)) 10 4 cX10_nearestWriter (some .int) P 5 [(0, .ref qT), (1, .int y1), (2, .int y2), (3, .int y3)] [] (V s)) (hP : P (some (.int res)) (V s)) (y1 : Int32) (y2 : Int32) (y3 : Int32) (hf : fX10_nearestWriter_b45 K5 y1 y2 y3 s = some res) : mG ρ (mC ρ (d + 2)) 10 4 cX10_nearestWriter (some .int) P 45 [(0, .ref qT), (1, .int y1), (2, .int y2), (3, .int y3)] [] (V s) := by
  unfold fX10_nearestWriter_b45 at hf
  refine e_iinc 3 dX10_nearestWriter_45 (by decide) rfl hf (fun v4 hf => ?_)
  refine e_goto 5 dX10_nearestWriter_48 (by decide) ?_
  refine e_pick [1, 2, 3, 0] rfl ?_
  exact hK5 y1 y2 v4 hf
set_option maxRecDepth 20000 in
theorem wX10_nearestWriter_b43 {ρ : mRo} {d : Nat} {P : mPo} {V : mS → List mE} (hV : mView LC V)  {res : Int32} {s : mS} {K5 : Int32 → Int32 → Int32 → mS → Option Int32} (hK5 : ∀ (y1 : Int32) (y2 : Int32) (y3 : Int32), K5 y1 y2 y3 s = some res → mG ρ (mC ρ (d + 2)) 10 4 cX10_nearestWriter (some .int) P 5 [(0, .ref qT), (1, .int y1), (2, .int y2), (3, .int y3)] [] (V s)) (hP : P (some (.int res)) (V s)) (y1 : Int32) (y3 : Int32) (hf : fX10_nearestWriter_b43 K5 y1 y3 s = some res) : mG ρ (mC ρ (d + 2)) 10 4 cX10_nearestWriter (some .int) P 43 [(0, .ref qT), (1, .int y1), (3, .int y3)] [] (V s) := by
  unfold fX10_nearestWriter_b43 at hf
  refine e_iload_n 2 dX10_nearestWriter_43 rfl rfl ?_
  refine e_istore_n dX10_nearestWriter_44 rfl (by decide) hf (fun v3 hf => ?_)
  refine e_pick [1, 2, 0, 3] rfl ?_
  exact wX10_nearestWriter_b45 hV hK5 hP y1 v3 y3 hf
set_option maxRecDepth 20000 in
theorem wX10_nearestWriter_b5 {ρ : mRo} {d : Nat} {P : mPo} {V : mS → List mE} (hV : mView LC V)  {res : Int32} {s : mS} (hP : P (some (.int res)) (V s)) : ∀ (k : Nat) (y1 : Int32) (y2 : Int32) (y3 : Int32), fX10_nearestWriter_b5 k y1 y2 y3 s = some res → mG ρ (mC ρ (d + 2)) 10 4 cX10_nearestWriter (some .int) P 5 [(0, .ref qT), (1, .int y1), (2, .int y2), (3, .int y3)] [] (V s) := by
  intro k
  induction k with
  | zero => intro y1 y2 y3 hf; rw [fX10_nearestWriter_b5] at hf; cases hf
  | succ k ih =>
    intro y1 y2 y3 hf
    rw [fX10_nearestWriter_b5] at hf
    refine e_iload_n 3 dX10_nearestWriter_5 rfl rfl ?_
    refine e_aload_n 0 dX10_nearestWriter_6 rfl rfl ?_
    refine e_getr hV dX10_nearestWriter_7 rfl lc_T rfl ?_
    refine e_geti hV dX10_nearestWriter_10 rfl (lc_W (by decide)) rfl ?_
    refine e_icmp_ge 51 dX10_nearestWriter_13 (by decide) hf (fun hf => ?_) (fun hf => ?_)
    · refine e_iload_n 2 dX10_nearestWriter_51 rfl rfl ?_
      obtain rfl := Option.some.inj hf
      exact e_iret dX10_nearestWriter_52 trivial hP
    · refine e_iload_n 2 dX10_nearestWriter_16 rfl rfl ?_
      refine e_if_lt 43 dX10_nearestWriter_17 (by decide) hf (fun hf => ?_) (fun hf => ?_)
      · refine e_pick [0, 1, 3] rfl ?_
        exact wX10_nearestWriter_b43 hV ih hP y1 y3 hf
      · refine e_aload_n 0 dX10_nearestWriter_20 rfl rfl ?_
        refine e_aload_n 0 dX10_nearestWriter_21 rfl rfl ?_
        refine e_getr hV dX10_nearestWriter_22 rfl lc_T rfl ?_
        refine e_iload_n 3 dX10_nearestWriter_25 rfl rfl ?_
        refine e_iload_n 1 dX10_nearestWriter_26 rfl rfl ?_
        obtain ⟨r5, hg, hf⟩ := bO_some hf
        refine e_callV (as := [.ref (qM 0), .int y3, .int y1]) (v := (some (.int r5))) (s' := s) hV dX10_nearestWriter_27 (Or.inl rfl) rfl rfl rfl rfl (Nat.le_of_ble_eq_true rfl) lc_T rfl rfl (fun Q hQ => tX10_apart (d := d) hV (by decide) hg hQ) ?_
        refine e_aload_n 0 dX10_nearestWriter_30 rfl rfl ?_
        refine e_aload_n 0 dX10_nearestWriter_31 rfl rfl ?_
        refine e_getr hV dX10_nearestWriter_32 rfl lc_T rfl ?_
        refine e_iload_n 2 dX10_nearestWriter_35 rfl rfl ?_
        refine e_iload_n 1 dX10_nearestWriter_36 rfl rfl ?_
        obtain ⟨r6, hg, hf⟩ := bO_some hf
        refine e_callV (as := [.ref (qM 0), .int y2, .int y1]) (v := (some (.int r6))) (s' := s) hV dX10_nearestWriter_37 (Or.inl rfl) rfl rfl rfl rfl (Nat.le_of_ble_eq_true rfl) lc_T rfl rfl (fun Q hQ => tX10_apart (d := d) hV (by decide) hg hQ) ?_
        refine e_icmp_ge 45 dX10_nearestWriter_40 (by decide) hf (fun hf => ?_) (fun hf => ?_)
        · refine e_pick [0, 1, 2, 3] rfl ?_
          exact wX10_nearestWriter_b45 hV ih hP y1 y2 y3 hf
        · refine e_pick [0, 1, 3] rfl ?_
          exact wX10_nearestWriter_b43 hV ih hP y1 y3 hf
set_option maxRecDepth 20000 in
theorem tX10_nearestWriter {ρ : mRo} {d : Nat} {P : mPo} {V : mS → List mE} (hV : mView LC V)  {x1 : Int32} {s : mS} {res : Int32} (hf : fX10_nearestWriter x1 s = some res) (hP : P (some (.int res)) (V s)) : mC ρ (d + 3) 129 [.ref qT, .int x1] (V s) P := by
  refine ⟨_, rfl, Nat.le_of_ble_eq_true rfl, by decide, ?_⟩
  show mG ρ (mC ρ (d + 2)) 10 4 cX10_nearestWriter (some .int) P 0 [(0, .ref qT), (1, .int x1)] [] (V s)
  unfold fX10_nearestWriter at hf
  refine e_bipush (w := (-2)) dX10_nearestWriter_0 (by decide) ?_
  refine e_istore_n dX10_nearestWriter_2 rfl (by decide) hf (fun v1 hf => ?_)
  refine e_iconst (w := (nI 0)) dX10_nearestWriter_3 (by decide) ?_
  refine e_istore_n dX10_nearestWriter_4 rfl (by decide) hf (fun v2 hf => ?_)
  refine e_pick [2, 3, 1, 0] rfl ?_
  exact wX10_nearestWriter_b5 hV hP mFu x1 v1 v2 hf

theorem dX10_nearest_0 : decode cX10_nearest 0 = .ok (.iload_n 2, 1) := by decide +kernel
theorem dX10_nearest_1 : decode cX10_nearest 1 = .ok (.ifCond .ne 24, 3) := by decide +kernel
theorem dX10_nearest_4 : decode cX10_nearest 4 = .ok (.aload_n 0, 1) := by decide +kernel
theorem dX10_nearest_5 : decode cX10_nearest 5 = .ok (.getfield 22, 3) := by decide +kernel
theorem dX10_nearest_8 : decode cX10_nearest 8 = .ok (.iload_n 1, 1) := by decide +kernel
theorem dX10_nearest_9 : decode cX10_nearest 9 = .ok (.invokevirtual 208, 3) := by decide +kernel
theorem dX10_nearest_12 : decode cX10_nearest 12 = .ok (.ifCond .eq 11, 3) := by decide +kernel
theorem dX10_nearest_15 : decode cX10_nearest 15 = .ok (.aload_n 0, 1) := by decide +kernel
theorem dX10_nearest_16 : decode cX10_nearest 16 = .ok (.iload_n 1, 1) := by decide +kernel
theorem dX10_nearest_17 : decode cX10_nearest 17 = .ok (.invokevirtual 209, 3) := by decide +kernel
theorem dX10_nearest_20 : decode cX10_nearest 20 = .ok (.goto 4, 3) := by decide +kernel
theorem dX10_nearest_23 : decode cX10_nearest 23 = .ok (.iconst (-1), 1) := by decide +kernel
theorem dX10_nearest_24 : decode cX10_nearest 24 = .ok (.ireturn, 1) := by decide +kernel
theorem dX10_nearest_25 : decode cX10_nearest 25 = .ok (.iload_n 2, 1) := by decide +kernel
theorem dX10_nearest_26 : decode cX10_nearest 26 = .ok (.iconst 1, 1) := by decide +kernel
theorem dX10_nearest_27 : decode cX10_nearest 27 = .ok (.if_icmp .ne 24, 3) := by decide +kernel
theorem dX10_nearest_30 : decode cX10_nearest 30 = .ok (.aload_n 0, 1) := by decide +kernel
theorem dX10_nearest_31 : decode cX10_nearest 31 = .ok (.getfield 10, 3) := by decide +kernel
theorem dX10_nearest_34 : decode cX10_nearest 34 = .ok (.iload_n 1, 1) := by decide +kernel
theorem dX10_nearest_35 : decode cX10_nearest 35 = .ok (.invokevirtual 174, 3) := by decide +kernel
theorem dX10_nearest_38 : decode cX10_nearest 38 = .ok (.ifCond .eq 11, 3) := by decide +kernel
theorem dX10_nearest_41 : decode cX10_nearest 41 = .ok (.aload_n 0, 1) := by decide +kernel
theorem dX10_nearest_42 : decode cX10_nearest 42 = .ok (.iload_n 1, 1) := by decide +kernel
theorem dX10_nearest_43 : decode cX10_nearest 43 = .ok (.invokevirtual 212, 3) := by decide +kernel
theorem dX10_nearest_46 : decode cX10_nearest 46 = .ok (.goto 4, 3) := by decide +kernel
theorem dX10_nearest_49 : decode cX10_nearest 49 = .ok (.iconst (-1), 1) := by decide +kernel
theorem dX10_nearest_50 : decode cX10_nearest 50 = .ok (.ireturn, 1) := by decide +kernel
theorem dX10_nearest_51 : decode cX10_nearest 51 = .ok (.iconst (-1), 1) := by decide +kernel
theorem dX10_nearest_52 : decode cX10_nearest 52 = .ok (.ireturn, 1) := by decide +kernel
def fX10_nearest (x1 : Int32) (x2 : Int32) (s : mS) : Option Int32 :=
  if x2 = 0 then
    bO (fX9_has 0 x1 s) fun r3 =>
    if r3 = 0 then
      some (-1)
    else
      bO (fX10_nearestMachine x1 s) fun r4 =>
      some r4
  else
    if x2 = (nI 1) then
      bO (fX6_has 0 x1 s) fun r1 =>
      if r1 = 0 then
        some (-1)
      else
        bO (fX10_nearestWriter x1 s) fun r2 =>
        some r2
    else
      some (-1)

set_option maxRecDepth 20000 in
theorem tX10_nearest {ρ : mRo} {d : Nat} {P : mPo} {V : mS → List mE} (hV : mView LC V)  {x1 : Int32} {x2 : Int32} {s : mS} {res : Int32} (hf : fX10_nearest x1 x2 s = some res) (hP : P (some (.int res)) (V s)) : mC ρ (d + 4) 76 [.ref qT, .int x1, .int x2] (V s) P := by
  refine ⟨_, rfl, Nat.le_of_ble_eq_true rfl, by decide, ?_⟩
  show mG ρ (mC ρ (d + 3)) 10 3 cX10_nearest (some .int) P 0 [(0, .ref qT), (1, .int x1), (2, .int x2)] [] (V s)
  unfold fX10_nearest at hf
  refine e_iload_n 2 dX10_nearest_0 rfl rfl ?_
  refine e_if_ne 25 dX10_nearest_1 (by decide) hf (fun hf => ?_) (fun hf => ?_)
  · refine e_iload_n 2 dX10_nearest_25 rfl rfl ?_
    refine e_iconst (w := (nI 1)) dX10_nearest_26 (by decide) ?_
    refine e_icmp_ne 51 dX10_nearest_27 (by decide) hf (fun hf => ?_) (fun hf => ?_)
    · refine e_iconst (w := (-1)) dX10_nearest_51 (by decide) ?_
      obtain rfl := Option.some.inj hf
      exact e_iret dX10_nearest_52 trivial hP
    · refine e_aload_n 0 dX10_nearest_30 rfl rfl ?_
      refine e_getr hV dX10_nearest_31 rfl lc_T rfl ?_
      refine e_iload_n 1 dX10_nearest_34 rfl rfl ?_
      obtain ⟨r1, hg, hf⟩ := bO_some hf
      refine e_callV (as := [.int x1]) (v := (some (.int r1))) (s' := s) hV dX10_nearest_35 (Or.inl rfl) rfl rfl rfl rfl (Nat.le_of_ble_eq_true rfl) (lc_M (by decide)) rfl rfl (fun Q hQ => tX6_has (d := (d + 2)) hV (by decide) hg hQ) ?_
      refine e_if_eq 49 dX10_nearest_38 (by decide) hf (fun hf => ?_) (fun hf => ?_)
      · refine e_iconst (w := (-1)) dX10_nearest_49 (by decide) ?_
        obtain rfl := Option.some.inj hf
        exact e_iret dX10_nearest_50 trivial hP
      · refine e_aload_n 0 dX10_nearest_41 rfl rfl ?_
        refine e_iload_n 1 dX10_nearest_42 rfl rfl ?_
        obtain ⟨r2, hg, hf⟩ := bO_some hf
        refine e_callV (as := [.int x1]) (v := (some (.int r2))) (s' := s) hV dX10_nearest_43 (Or.inl rfl) rfl rfl rfl rfl (Nat.le_of_ble_eq_true rfl) lc_T rfl rfl (fun Q hQ => tX10_nearestWriter (d := d) hV  hg hQ) ?_
        refine e_goto 50 dX10_nearest_46 (by decide) ?_
        obtain rfl := Option.some.inj hf
        exact e_iret dX10_nearest_50 trivial hP
  · refine e_aload_n 0 dX10_nearest_4 rfl rfl ?_
    refine e_getr hV dX10_nearest_5 rfl lc_T rfl ?_
    refine e_iload_n 1 dX10_nearest_8 rfl rfl ?_
    obtain ⟨r3, hg, hf⟩ := bO_some hf
    refine e_callV (as := [.int x1]) (v := (some (.int r3))) (s' := s) hV dX10_nearest_9 (Or.inl rfl) rfl rfl rfl rfl (Nat.le_of_ble_eq_true rfl) (lc_W (by decide)) rfl rfl (fun Q hQ => tX9_has (d := (d + 2)) hV (by decide) hg hQ) ?_
    refine e_if_eq 23 dX10_nearest_12 (by decide) hf (fun hf => ?_) (fun hf => ?_)
    · refine e_iconst (w := (-1)) dX10_nearest_23 (by decide) ?_
      obtain rfl := Option.some.inj hf
      exact e_iret dX10_nearest_24 trivial hP
    · refine e_aload_n 0 dX10_nearest_15 rfl rfl ?_
      refine e_iload_n 1 dX10_nearest_16 rfl rfl ?_
      obtain ⟨r4, hg, hf⟩ := bO_some hf
      refine e_callV (as := [.int x1]) (v := (some (.int r4))) (s' := s) hV dX10_nearest_17 (Or.inl rfl) rfl rfl rfl rfl (Nat.le_of_ble_eq_true rfl) lc_T rfl rfl (fun Q hQ => tX10_nearestMachine (d := d) hV  hg hQ) ?_
      refine e_goto 24 dX10_nearest_20 (by decide) ?_
      obtain rfl := Option.some.inj hf
      exact e_iret dX10_nearest_24 trivial hP

theorem dX10_givenTo_0 : decode cX10_givenTo 0 = .ok (.iconst 0, 1) := by decide +kernel
theorem dX10_givenTo_1 : decode cX10_givenTo 1 = .ok (.istore_n 3, 1) := by decide +kernel
theorem dX10_givenTo_2 : decode cX10_givenTo 2 = .ok (.ldc_w 450, 3) := by decide +kernel
theorem dX10_givenTo_5 : decode cX10_givenTo 5 = .ok (.istore 4, 2) := by decide +kernel
theorem dX10_givenTo_7 : decode cX10_givenTo 7 = .ok (.iconst 0, 1) := by decide +kernel
theorem dX10_givenTo_8 : decode cX10_givenTo 8 = .ok (.istore 5, 2) := by decide +kernel
theorem dX10_givenTo_10 : decode cX10_givenTo 10 = .ok (.iload 5, 2) := by decide +kernel
theorem dX10_givenTo_12 : decode cX10_givenTo 12 = .ok (.aload_n 0, 1) := by decide +kernel
theorem dX10_givenTo_13 : decode cX10_givenTo 13 = .ok (.getfield 10, 3) := by decide +kernel
theorem dX10_givenTo_16 : decode cX10_givenTo 16 = .ok (.getfield 216, 3) := by decide +kernel
theorem dX10_givenTo_19 : decode cX10_givenTo 19 = .ok (.if_icmp .ge 57, 3) := by decide +kernel
theorem dX10_givenTo_22 : decode cX10_givenTo 22 = .ok (.iload_n 2, 1) := by decide +kernel
theorem dX10_givenTo_23 : decode cX10_givenTo 23 = .ok (.iconst 1, 1) := by decide +kernel
theorem dX10_givenTo_24 : decode cX10_givenTo 24 = .ok (.iload 5, 2) := by decide +kernel
theorem dX10_givenTo_26 : decode cX10_givenTo 26 = .ok (.ishl, 1) := by decide +kernel
theorem dX10_givenTo_27 : decode cX10_givenTo 27 = .ok (.iand, 1) := by decide +kernel
theorem dX10_givenTo_28 : decode cX10_givenTo 28 = .ok (.ifCond .ne 42, 3) := by decide +kernel
theorem dX10_givenTo_31 : decode cX10_givenTo 31 = .ok (.aload_n 0, 1) := by decide +kernel
theorem dX10_givenTo_32 : decode cX10_givenTo 32 = .ok (.aload_n 0, 1) := by decide +kernel
theorem dX10_givenTo_33 : decode cX10_givenTo 33 = .ok (.getfield 10, 3) := by decide +kernel
theorem dX10_givenTo_36 : decode cX10_givenTo 36 = .ok (.iload_n 1, 1) := by decide +kernel
theorem dX10_givenTo_37 : decode cX10_givenTo 37 = .ok (.iload 5, 2) := by decide +kernel
theorem dX10_givenTo_39 : decode cX10_givenTo 39 = .ok (.invokevirtual 205, 3) := by decide +kernel
theorem dX10_givenTo_42 : decode cX10_givenTo 42 = .ok (.aload_n 0, 1) := by decide +kernel
theorem dX10_givenTo_43 : decode cX10_givenTo 43 = .ok (.getfield 74, 3) := by decide +kernel
theorem dX10_givenTo_46 : decode cX10_givenTo 46 = .ok (.iload_n 2, 1) := by decide +kernel
theorem dX10_givenTo_47 : decode cX10_givenTo 47 = .ok (.iconst 1, 1) := by decide +kernel
theorem dX10_givenTo_48 : decode cX10_givenTo 48 = .ok (.iload 5, 2) := by decide +kernel
theorem dX10_givenTo_50 : decode cX10_givenTo 50 = .ok (.ishl, 1) := by decide +kernel
theorem dX10_givenTo_51 : decode cX10_givenTo 51 = .ok (.ior, 1) := by decide +kernel
theorem dX10_givenTo_52 : decode cX10_givenTo 52 = .ok (.iaload, 1) := by decide +kernel
theorem dX10_givenTo_53 : decode cX10_givenTo 53 = .ok (.iadd, 1) := by decide +kernel
theorem dX10_givenTo_54 : decode cX10_givenTo 54 = .ok (.istore 6, 2) := by decide +kernel
theorem dX10_givenTo_56 : decode cX10_givenTo 56 = .ok (.iload 6, 2) := by decide +kernel
theorem dX10_givenTo_58 : decode cX10_givenTo 58 = .ok (.iload 4, 2) := by decide +kernel
theorem dX10_givenTo_60 : decode cX10_givenTo 60 = .ok (.if_icmp .ge 10, 3) := by decide +kernel
theorem dX10_givenTo_63 : decode cX10_givenTo 63 = .ok (.iload 6, 2) := by decide +kernel
theorem dX10_givenTo_65 : decode cX10_givenTo 65 = .ok (.istore 4, 2) := by decide +kernel
theorem dX10_givenTo_67 : decode cX10_givenTo 67 = .ok (.iload 5, 2) := by decide +kernel
theorem dX10_givenTo_69 : decode cX10_givenTo 69 = .ok (.istore_n 3, 1) := by decide +kernel
theorem dX10_givenTo_70 : decode cX10_givenTo 70 = .ok (.iinc 5 1, 3) := by decide +kernel
theorem dX10_givenTo_73 : decode cX10_givenTo 73 = .ok (.goto (-63), 3) := by decide +kernel
theorem dX10_givenTo_76 : decode cX10_givenTo 76 = .ok (.iload_n 3, 1) := by decide +kernel
theorem dX10_givenTo_77 : decode cX10_givenTo 77 = .ok (.ireturn, 1) := by decide +kernel
def fX10_givenTo_b70 (K10 : Int32 → Int32 → Int32 → Int32 → Int32 → mS → Option Int32) (y1 : Int32) (y2 : Int32) (y3 : Int32) (y4 : Int32) (y5 : Int32) (s : mS) : Option Int32 :=
  bnd (y5 + (nI 1)) fun v4 =>
  K10 y1 y2 y3 y4 v4 s

def fX10_givenTo_b10 : Nat → Int32 → Int32 → Int32 → Int32 → Int32 → mS → Option Int32
  | 0, _, _, _, _, _, _ => none
  | k + 1, y1, y2, y3, y4, y5, s =>
    if (gI s (iM_size 0)) ≤ y5 then
      some y3
    else
      if (y2 &&& ((nI 1) <<< (y5 &&& 31))) = 0 then
        bO (fX10_apart 0 y1 y5 s) fun r5 =>
        ldA s aT_givenRest 256 (y2 ||| ((nI 1) <<< (y5 &&& 31))) fun v6 =>
        bnd (r5 + v6) fun v7 =>
        if y4 ≤ v7 then
          fX10_givenTo_b70 (fun u0 u1 u2 u3 u4 u5 => fX10_givenTo_b10 k u0 u1 u2 u3 u4 u5) y1 y2 y3 y4 y5 s
        else
          bnd v7 fun v8 =>
          bnd y5 fun v9 =>
          fX10_givenTo_b70 (fun u0 u1 u2 u3 u4 u5 => fX10_givenTo_b10 k u0 u1 u2 u3 u4 u5) y1 y2 v9 v8 y5 s
      else
        fX10_givenTo_b70 (fun u0 u1 u2 u3 u4 u5 => fX10_givenTo_b10 k u0 u1 u2 u3 u4 u5) y1 y2 y3 y4 y5 s

def fX10_givenTo (x1 : Int32) (x2 : Int32) (s : mS) : Option Int32 :=
  bnd (nI 0) fun v1 =>
  bnd (nI 2147483647) fun v2 =>
  bnd (nI 0) fun v3 =>
  fX10_givenTo_b10 mFu x1 x2 v1 v2 v3 s

set_option maxRecDepth 20000 in
theorem wX10_givenTo_b70 {ρ : mRo} {d : Nat} {P : mPo} {V : mS → List mE} (hV : mView LC V)  {res : Int32} {s : mS} {K10 : Int32 → Int32 → Int32 → Int32 → Int32 → mS → Option Int32} (hK10 : ∀ (y1 : Int32) (y2 : Int32) (y3 : Int32) (y4 : Int32) (y5 : Int32), K10 y1 y2 y3 y4 y5 s = some res → mG ρ (mC ρ (d + 2)) 10 7 cX10_givenTo (some .int) P 10 [(0, .ref qT), (1, .int y1), (2, .int y2), (3, .int y3), (4, .int y4), (5, .int y5)] [] (V s)) (hP : P (some (.int res)) (V s)) (y1 : Int32) (y2 : Int32) (y3 : Int32) (y4 : Int32) (y5 : Int32) (hf : fX10_givenTo_b70 K10 y1 y2 y3 y4 y5 s = some res) : mG ρ (mC ρ (d + 2)) 10 7 cX10_givenTo (some .int) P 70 [(0, .ref qT), (1, .int y1), (2, .int y2), (3, .int y3), (4, .int y4), (5, .int y5)] [] (V s) := by
  unfold fX10_givenTo_b70 at hf
  refine e_iinc 5 dX10_givenTo_70 (by decide) rfl hf (fun v4 hf => ?_)
  refine e_goto 10 dX10_givenTo_73 (by decide) ?_
  refine e_pick [1, 2, 3, 4, 5, 0] rfl ?_
  exact hK10 y1 y2 y3 y4 v4 hf
set_option maxRecDepth 20000 in
theorem wX10_givenTo_b10 {ρ : mRo} {d : Nat} {P : mPo} {V : mS → List mE} (hV : mView LC V)  {res : Int32} {s : mS} (hP : P (some (.int res)) (V s)) : ∀ (k : Nat) (y1 : Int32) (y2 : Int32) (y3 : Int32) (y4 : Int32) (y5 : Int32), fX10_givenTo_b10 k y1 y2 y3 y4 y5 s = some res → mG ρ (mC ρ (d + 2)) 10 7 cX10_givenTo (some .int) P 10 [(0, .ref qT), (1, .int y1), (2, .int y2), (3, .int y3), (4, .int y4), (5, .int y5)] [] (V s) := by
  intro k
  induction k with
  | zero => intro y1 y2 y3 y4 y5 hf; rw [fX10_givenTo_b10] at hf; cases hf
  | succ k ih =>
    intro y1 y2 y3 y4 y5 hf
    rw [fX10_givenTo_b10] at hf
    refine e_iload 5 dX10_givenTo_10 rfl ?_
    refine e_aload_n 0 dX10_givenTo_12 rfl rfl ?_
    refine e_getr hV dX10_givenTo_13 rfl lc_T rfl ?_
    refine e_geti hV dX10_givenTo_16 rfl (lc_M (by decide)) rfl ?_
    refine e_icmp_ge 76 dX10_givenTo_19 (by decide) hf (fun hf => ?_) (fun hf => ?_)
    · refine e_iload_n 3 dX10_givenTo_76 rfl rfl ?_
      obtain rfl := Option.some.inj hf
      exact e_iret dX10_givenTo_77 trivial hP
    · refine e_iload_n 2 dX10_givenTo_22 rfl rfl ?_
      refine e_iconst (w := (nI 1)) dX10_givenTo_23 (by decide) ?_
      refine e_iload 5 dX10_givenTo_24 rfl ?_
      refine e_ishl dX10_givenTo_26 ?_
      refine e_iand dX10_givenTo_27 ?_
      refine e_if_ne 70 dX10_givenTo_28 (by decide) hf (fun hf => ?_) (fun hf => ?_)
      · refine e_pick [0, 1, 2, 3, 4, 5] rfl ?_
        exact wX10_givenTo_b70 hV ih hP y1 y2 y3 y4 y5 hf
      · refine e_aload_n 0 dX10_givenTo_31 rfl rfl ?_
        refine e_aload_n 0 dX10_givenTo_32 rfl rfl ?_
        refine e_getr hV dX10_givenTo_33 rfl lc_T rfl ?_
        refine e_iload_n 1 dX10_givenTo_36 rfl rfl ?_
        refine e_iload 5 dX10_givenTo_37 rfl ?_
        obtain ⟨r5, hg, hf⟩ := bO_some hf
        refine e_callV (as := [.ref (qM 0), .int y1, .int y5]) (v := (some (.int r5))) (s' := s) hV dX10_givenTo_39 (Or.inl rfl) rfl rfl rfl rfl (Nat.le_of_ble_eq_true rfl) lc_T rfl rfl (fun Q hQ => tX10_apart (d := d) hV (by decide) hg hQ) ?_
        refine e_aload_n 0 dX10_givenTo_42 rfl rfl ?_
        refine e_getr hV dX10_givenTo_43 rfl lc_T rfl ?_
        refine e_iload_n 2 dX10_givenTo_46 rfl rfl ?_
        refine e_iconst (w := (nI 1)) dX10_givenTo_47 (by decide) ?_
        refine e_iload 5 dX10_givenTo_48 rfl ?_
        refine e_ishl dX10_givenTo_50 ?_
        refine e_ior dX10_givenTo_51 ?_
        refine e_iald hV dX10_givenTo_52 lc_T_givenRest hf (fun v6 hf => ?_)
        refine e_iadd dX10_givenTo_53 ?_
        refine e_istore dX10_givenTo_54 (by decide) hf (fun v7 hf => ?_)
        refine e_iload 0 dX10_givenTo_56 rfl ?_
        refine e_iload 5 dX10_givenTo_58 rfl ?_
        refine e_icmp_ge 70 dX10_givenTo_60 (by decide) hf (fun hf => ?_) (fun hf => ?_)
        · refine e_pick [1, 2, 3, 4, 5, 6] rfl ?_
          exact wX10_givenTo_b70 hV ih hP y1 y2 y3 y4 y5 hf
        · refine e_iload 0 dX10_givenTo_63 rfl ?_
          refine e_istore dX10_givenTo_65 (by decide) hf (fun v8 hf => ?_)
          refine e_iload 6 dX10_givenTo_67 rfl ?_
          refine e_istore_n dX10_givenTo_69 rfl (by decide) hf (fun v9 hf => ?_)
          refine e_pick [3, 4, 5, 0, 1, 6] rfl ?_
          exact wX10_givenTo_b70 hV ih hP y1 y2 v9 v8 y5 hf
set_option maxRecDepth 20000 in
theorem tX10_givenTo {ρ : mRo} {d : Nat} {P : mPo} {V : mS → List mE} (hV : mView LC V)  {x1 : Int32} {x2 : Int32} {s : mS} {res : Int32} (hf : fX10_givenTo x1 x2 s = some res) (hP : P (some (.int res)) (V s)) : mC ρ (d + 3) 131 [.ref qT, .int x1, .int x2] (V s) P := by
  refine ⟨_, rfl, Nat.le_of_ble_eq_true rfl, by decide, ?_⟩
  show mG ρ (mC ρ (d + 2)) 10 7 cX10_givenTo (some .int) P 0 [(0, .ref qT), (1, .int x1), (2, .int x2)] [] (V s)
  unfold fX10_givenTo at hf
  refine e_iconst (w := (nI 0)) dX10_givenTo_0 (by decide) ?_
  refine e_istore_n dX10_givenTo_1 rfl (by decide) hf (fun v1 hf => ?_)
  refine e_ldc_w (w := (nI 2147483647)) dX10_givenTo_2 rfl ?_
  refine e_istore dX10_givenTo_5 (by decide) hf (fun v2 hf => ?_)
  refine e_iconst (w := (nI 0)) dX10_givenTo_7 (by decide) ?_
  refine e_istore dX10_givenTo_8 (by decide) hf (fun v3 hf => ?_)
  refine e_pick [3, 4, 5, 2, 1, 0] rfl ?_
  exact wX10_givenTo_b10 hV hP mFu x1 x2 v1 v2 v3 hf

theorem dJ6_bitCount_0f7a4_0 : decode cJ6_bitCount_0f7a4 0 = .ok (.iload_n 0, 1) := by decide +kernel
theorem dJ6_bitCount_0f7a4_1 : decode cJ6_bitCount_0f7a4 1 = .ok (.iload_n 0, 1) := by decide +kernel
theorem dJ6_bitCount_0f7a4_2 : decode cJ6_bitCount_0f7a4 2 = .ok (.iconst 1, 1) := by decide +kernel
theorem dJ6_bitCount_0f7a4_3 : decode cJ6_bitCount_0f7a4 3 = .ok (.iushr, 1) := by decide +kernel
theorem dJ6_bitCount_0f7a4_4 : decode cJ6_bitCount_0f7a4 4 = .ok (.ldc_w 265, 3) := by decide +kernel
theorem dJ6_bitCount_0f7a4_7 : decode cJ6_bitCount_0f7a4 7 = .ok (.iand, 1) := by decide +kernel
theorem dJ6_bitCount_0f7a4_8 : decode cJ6_bitCount_0f7a4 8 = .ok (.isub, 1) := by decide +kernel
theorem dJ6_bitCount_0f7a4_9 : decode cJ6_bitCount_0f7a4 9 = .ok (.istore_n 0, 1) := by decide +kernel
theorem dJ6_bitCount_0f7a4_10 : decode cJ6_bitCount_0f7a4 10 = .ok (.iload_n 0, 1) := by decide +kernel
theorem dJ6_bitCount_0f7a4_11 : decode cJ6_bitCount_0f7a4 11 = .ok (.ldc_w 266, 3) := by decide +kernel
theorem dJ6_bitCount_0f7a4_14 : decode cJ6_bitCount_0f7a4 14 = .ok (.iand, 1) := by decide +kernel
theorem dJ6_bitCount_0f7a4_15 : decode cJ6_bitCount_0f7a4 15 = .ok (.iload_n 0, 1) := by decide +kernel
theorem dJ6_bitCount_0f7a4_16 : decode cJ6_bitCount_0f7a4 16 = .ok (.iconst 2, 1) := by decide +kernel
theorem dJ6_bitCount_0f7a4_17 : decode cJ6_bitCount_0f7a4 17 = .ok (.iushr, 1) := by decide +kernel
theorem dJ6_bitCount_0f7a4_18 : decode cJ6_bitCount_0f7a4 18 = .ok (.ldc_w 266, 3) := by decide +kernel
theorem dJ6_bitCount_0f7a4_21 : decode cJ6_bitCount_0f7a4 21 = .ok (.iand, 1) := by decide +kernel
theorem dJ6_bitCount_0f7a4_22 : decode cJ6_bitCount_0f7a4 22 = .ok (.iadd, 1) := by decide +kernel
theorem dJ6_bitCount_0f7a4_23 : decode cJ6_bitCount_0f7a4 23 = .ok (.istore_n 0, 1) := by decide +kernel
theorem dJ6_bitCount_0f7a4_24 : decode cJ6_bitCount_0f7a4 24 = .ok (.iload_n 0, 1) := by decide +kernel
theorem dJ6_bitCount_0f7a4_25 : decode cJ6_bitCount_0f7a4 25 = .ok (.iload_n 0, 1) := by decide +kernel
theorem dJ6_bitCount_0f7a4_26 : decode cJ6_bitCount_0f7a4 26 = .ok (.iconst 4, 1) := by decide +kernel
theorem dJ6_bitCount_0f7a4_27 : decode cJ6_bitCount_0f7a4 27 = .ok (.iushr, 1) := by decide +kernel
theorem dJ6_bitCount_0f7a4_28 : decode cJ6_bitCount_0f7a4 28 = .ok (.iadd, 1) := by decide +kernel
theorem dJ6_bitCount_0f7a4_29 : decode cJ6_bitCount_0f7a4 29 = .ok (.ldc_w 267, 3) := by decide +kernel
theorem dJ6_bitCount_0f7a4_32 : decode cJ6_bitCount_0f7a4 32 = .ok (.iand, 1) := by decide +kernel
theorem dJ6_bitCount_0f7a4_33 : decode cJ6_bitCount_0f7a4 33 = .ok (.istore_n 0, 1) := by decide +kernel
theorem dJ6_bitCount_0f7a4_34 : decode cJ6_bitCount_0f7a4 34 = .ok (.iload_n 0, 1) := by decide +kernel
theorem dJ6_bitCount_0f7a4_35 : decode cJ6_bitCount_0f7a4 35 = .ok (.iload_n 0, 1) := by decide +kernel
theorem dJ6_bitCount_0f7a4_36 : decode cJ6_bitCount_0f7a4 36 = .ok (.bipush 8, 2) := by decide +kernel
theorem dJ6_bitCount_0f7a4_38 : decode cJ6_bitCount_0f7a4 38 = .ok (.iushr, 1) := by decide +kernel
theorem dJ6_bitCount_0f7a4_39 : decode cJ6_bitCount_0f7a4 39 = .ok (.iadd, 1) := by decide +kernel
theorem dJ6_bitCount_0f7a4_40 : decode cJ6_bitCount_0f7a4 40 = .ok (.istore_n 0, 1) := by decide +kernel
theorem dJ6_bitCount_0f7a4_41 : decode cJ6_bitCount_0f7a4 41 = .ok (.iload_n 0, 1) := by decide +kernel
theorem dJ6_bitCount_0f7a4_42 : decode cJ6_bitCount_0f7a4 42 = .ok (.iload_n 0, 1) := by decide +kernel
theorem dJ6_bitCount_0f7a4_43 : decode cJ6_bitCount_0f7a4 43 = .ok (.bipush 16, 2) := by decide +kernel
theorem dJ6_bitCount_0f7a4_45 : decode cJ6_bitCount_0f7a4 45 = .ok (.iushr, 1) := by decide +kernel
theorem dJ6_bitCount_0f7a4_46 : decode cJ6_bitCount_0f7a4 46 = .ok (.iadd, 1) := by decide +kernel
theorem dJ6_bitCount_0f7a4_47 : decode cJ6_bitCount_0f7a4 47 = .ok (.istore_n 0, 1) := by decide +kernel
theorem dJ6_bitCount_0f7a4_48 : decode cJ6_bitCount_0f7a4 48 = .ok (.iload_n 0, 1) := by decide +kernel
theorem dJ6_bitCount_0f7a4_49 : decode cJ6_bitCount_0f7a4 49 = .ok (.bipush 63, 2) := by decide +kernel
theorem dJ6_bitCount_0f7a4_51 : decode cJ6_bitCount_0f7a4 51 = .ok (.iand, 1) := by decide +kernel
theorem dJ6_bitCount_0f7a4_52 : decode cJ6_bitCount_0f7a4 52 = .ok (.ireturn, 1) := by decide +kernel
def fJ6_bitCount_0f7a4 (x0 : Int32) (s : mS) : Option Int32 :=
  bnd (x0 - (((Int32.toUInt32 x0 >>> (Int32.toUInt32 (nI 1) &&& Int32.toUInt32 31)).toInt32) &&& (nI 1431655765))) fun v1 =>
  bnd ((v1 &&& (nI 858993459)) + (((Int32.toUInt32 v1 >>> (Int32.toUInt32 (nI 2) &&& Int32.toUInt32 31)).toInt32) &&& (nI 858993459))) fun v2 =>
  bnd ((v2 + ((Int32.toUInt32 v2 >>> (Int32.toUInt32 (nI 4) &&& Int32.toUInt32 31)).toInt32)) &&& (nI 252645135)) fun v3 =>
  bnd (v3 + ((Int32.toUInt32 v3 >>> (Int32.toUInt32 (nI 8) &&& Int32.toUInt32 31)).toInt32)) fun v4 =>
  bnd (v4 + ((Int32.toUInt32 v4 >>> (Int32.toUInt32 (nI 16) &&& Int32.toUInt32 31)).toInt32)) fun v5 =>
  some (v5 &&& (nI 63))

set_option maxRecDepth 20000 in
theorem tJ6_bitCount_0f7a4 {ρ : mRo} {d : Nat} {P : mPo} {V : mS → List mE} {L : Nat → Option mLE} (hV : mView L V)  {x0 : Int32} {s : mS} {res : Int32} (hf : fJ6_bitCount_0f7a4 x0 s = some res) (hP : P (some (.int res)) (V s)) : mC ρ (d + 1) 233 [.int x0] (V s) P := by
  refine ⟨_, rfl, Nat.le_of_ble_eq_true rfl, by decide, ?_⟩
  show mG ρ (mC ρ d) 13 1 cJ6_bitCount_0f7a4 (some .int) P 0 [(0, .int x0)] [] (V s)
  unfold fJ6_bitCount_0f7a4 at hf
  refine e_iload_n 0 dJ6_bitCount_0f7a4_0 rfl rfl ?_
  refine e_iload_n 0 dJ6_bitCount_0f7a4_1 rfl rfl ?_
  refine e_iconst (w := (nI 1)) dJ6_bitCount_0f7a4_2 (by decide) ?_
  refine e_iushr dJ6_bitCount_0f7a4_3 ?_
  refine e_ldc_w (w := (nI 1431655765)) dJ6_bitCount_0f7a4_4 rfl ?_
  refine e_iand dJ6_bitCount_0f7a4_7 ?_
  refine e_isub dJ6_bitCount_0f7a4_8 ?_
  refine e_istore_n dJ6_bitCount_0f7a4_9 rfl (by decide) hf (fun v1 hf => ?_)
  refine e_iload_n 0 dJ6_bitCount_0f7a4_10 rfl rfl ?_
  refine e_ldc_w (w := (nI 858993459)) dJ6_bitCount_0f7a4_11 rfl ?_
  refine e_iand dJ6_bitCount_0f7a4_14 ?_
  refine e_iload_n 0 dJ6_bitCount_0f7a4_15 rfl rfl ?_
  refine e_iconst (w := (nI 2)) dJ6_bitCount_0f7a4_16 (by decide) ?_
  refine e_iushr dJ6_bitCount_0f7a4_17 ?_
  refine e_ldc_w (w := (nI 858993459)) dJ6_bitCount_0f7a4_18 rfl ?_
  refine e_iand dJ6_bitCount_0f7a4_21 ?_
  refine e_iadd dJ6_bitCount_0f7a4_22 ?_
  refine e_istore_n dJ6_bitCount_0f7a4_23 rfl (by decide) hf (fun v2 hf => ?_)
  refine e_iload_n 0 dJ6_bitCount_0f7a4_24 rfl rfl ?_
  refine e_iload_n 0 dJ6_bitCount_0f7a4_25 rfl rfl ?_
  refine e_iconst (w := (nI 4)) dJ6_bitCount_0f7a4_26 (by decide) ?_
  refine e_iushr dJ6_bitCount_0f7a4_27 ?_
  refine e_iadd dJ6_bitCount_0f7a4_28 ?_
  refine e_ldc_w (w := (nI 252645135)) dJ6_bitCount_0f7a4_29 rfl ?_
  refine e_iand dJ6_bitCount_0f7a4_32 ?_
  refine e_istore_n dJ6_bitCount_0f7a4_33 rfl (by decide) hf (fun v3 hf => ?_)
  refine e_iload_n 0 dJ6_bitCount_0f7a4_34 rfl rfl ?_
  refine e_iload_n 0 dJ6_bitCount_0f7a4_35 rfl rfl ?_
  refine e_bipush (w := (nI 8)) dJ6_bitCount_0f7a4_36 (by decide) ?_
  refine e_iushr dJ6_bitCount_0f7a4_38 ?_
  refine e_iadd dJ6_bitCount_0f7a4_39 ?_
  refine e_istore_n dJ6_bitCount_0f7a4_40 rfl (by decide) hf (fun v4 hf => ?_)
  refine e_iload_n 0 dJ6_bitCount_0f7a4_41 rfl rfl ?_
  refine e_iload_n 0 dJ6_bitCount_0f7a4_42 rfl rfl ?_
  refine e_bipush (w := (nI 16)) dJ6_bitCount_0f7a4_43 (by decide) ?_
  refine e_iushr dJ6_bitCount_0f7a4_45 ?_
  refine e_iadd dJ6_bitCount_0f7a4_46 ?_
  refine e_istore_n dJ6_bitCount_0f7a4_47 rfl (by decide) hf (fun v5 hf => ?_)
  refine e_iload_n 0 dJ6_bitCount_0f7a4_48 rfl rfl ?_
  refine e_bipush (w := (nI 63)) dJ6_bitCount_0f7a4_49 (by decide) ?_
  refine e_iand dJ6_bitCount_0f7a4_51 ?_
  obtain rfl := Option.some.inj hf
  exact e_iret dJ6_bitCount_0f7a4_52 trivial hP
