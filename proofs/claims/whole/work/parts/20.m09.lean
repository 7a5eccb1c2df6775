-- bytecode to functions, by program (wip/gen/decomp.py)
theorem dX11_clean_0 : decode cX11_clean 0 = .ok (.aload_n 0, 1) := by decide +kernel
theorem dX11_clean_1 : decode cX11_clean 1 = .ok (.iload_n 1, 1) := by decide +kernel
theorem dX11_clean_2 : decode cX11_clean 2 = .ok (.i2l, 1) := by decide +kernel
theorem dX11_clean_3 : decode cX11_clean 3 = .ok (.invokevirtual 104, 3) := by decide +kernel
theorem dX11_clean_6 : decode cX11_clean 6 = .ok (.ifCond .ne 5, 3) := by decide +kernel
theorem dX11_clean_9 : decode cX11_clean 9 = .ok (.iconst (-1), 1) := by decide +kernel
theorem dX11_clean_10 : decode cX11_clean 10 = .ok (.ireturn, 1) := by decide +kernel
theorem dX11_clean_11 : decode cX11_clean 11 = .ok (.aload_n 0, 1) := by decide +kernel
theorem dX11_clean_12 : decode cX11_clean 12 = .ok (.getfield 9, 3) := by decide +kernel
theorem dX11_clean_15 : decode cX11_clean 15 = .ok (.bipush 24, 2) := by decide +kernel
theorem dX11_clean_17 : decode cX11_clean 17 = .ok (.iload_n 1, 1) := by decide +kernel
theorem dX11_clean_18 : decode cX11_clean 18 = .ok (.iadd, 1) := by decide +kernel
theorem dX11_clean_19 : decode cX11_clean 19 = .ok (.iaload, 1) := by decide +kernel
theorem dX11_clean_20 : decode cX11_clean 20 = .ok (.istore_n 2, 1) := by decide +kernel
theorem dX11_clean_21 : decode cX11_clean 21 = .ok (.iconst 0, 1) := by decide +kernel
theorem dX11_clean_22 : decode cX11_clean 22 = .ok (.istore_n 3, 1) := by decide +kernel
theorem dX11_clean_23 : decode cX11_clean 23 = .ok (.iload_n 3, 1) := by decide +kernel
theorem dX11_clean_24 : decode cX11_clean 24 = .ok (.iconst 3, 1) := by decide +kernel
theorem dX11_clean_25 : decode cX11_clean 25 = .ok (.if_icmp .ge 21, 3) := by decide +kernel
theorem dX11_clean_28 : decode cX11_clean 28 = .ok (.aload_n 0, 1) := by decide +kernel
theorem dX11_clean_29 : decode cX11_clean 29 = .ok (.getfield 9, 3) := by decide +kernel
theorem dX11_clean_32 : decode cX11_clean 32 = .ok (.iconst 3, 1) := by decide +kernel
theorem dX11_clean_33 : decode cX11_clean 33 = .ok (.iload_n 1, 1) := by decide +kernel
theorem dX11_clean_34 : decode cX11_clean 34 = .ok (.imul, 1) := by decide +kernel
theorem dX11_clean_35 : decode cX11_clean 35 = .ok (.iload_n 3, 1) := by decide +kernel
theorem dX11_clean_36 : decode cX11_clean 36 = .ok (.iadd, 1) := by decide +kernel
theorem dX11_clean_37 : decode cX11_clean 37 = .ok (.bipush 6, 2) := by decide +kernel
theorem dX11_clean_39 : decode cX11_clean 39 = .ok (.iastore, 1) := by decide +kernel
theorem dX11_clean_40 : decode cX11_clean 40 = .ok (.iinc 3 1, 3) := by decide +kernel
theorem dX11_clean_43 : decode cX11_clean 43 = .ok (.goto (-20), 3) := by decide +kernel
theorem dX11_clean_46 : decode cX11_clean 46 = .ok (.aload_n 0, 1) := by decide +kernel
theorem dX11_clean_47 : decode cX11_clean 47 = .ok (.getfield 9, 3) := by decide +kernel
theorem dX11_clean_50 : decode cX11_clean 50 = .ok (.bipush 24, 2) := by decide +kernel
theorem dX11_clean_52 : decode cX11_clean 52 = .ok (.iload_n 1, 1) := by decide +kernel
theorem dX11_clean_53 : decode cX11_clean 53 = .ok (.iadd, 1) := by decide +kernel
theorem dX11_clean_54 : decode cX11_clean 54 = .ok (.iconst 0, 1) := by decide +kernel
theorem dX11_clean_55 : decode cX11_clean 55 = .ok (.iastore, 1) := by decide +kernel
theorem dX11_clean_56 : decode cX11_clean 56 = .ok (.aload_n 0, 1) := by decide +kernel
theorem dX11_clean_57 : decode cX11_clean 57 = .ok (.getfield 53, 3) := by decide +kernel
theorem dX11_clean_60 : decode cX11_clean 60 = .ok (.iconst 1, 1) := by decide +kernel
theorem dX11_clean_61 : decode cX11_clean 61 = .ok (.dup2, 1) := by decide +kernel
theorem dX11_clean_62 : decode cX11_clean 62 = .ok (.iaload, 1) := by decide +kernel
theorem dX11_clean_63 : decode cX11_clean 63 = .ok (.iconst 1, 1) := by decide +kernel
theorem dX11_clean_64 : decode cX11_clean 64 = .ok (.iadd, 1) := by decide +kernel
theorem dX11_clean_65 : decode cX11_clean 65 = .ok (.iastore, 1) := by decide +kernel
theorem dX11_clean_66 : decode cX11_clean 66 = .ok (.iload_n 2, 1) := by decide +kernel
theorem dX11_clean_67 : decode cX11_clean 67 = .ok (.ireturn, 1) := by decide +kernel
def fX11_clean_b23 : Nat → Int32 → Int32 → Int32 → mS → Option (Int32 × mS)
  | 0, _, _, _, _ => none
  | k + 1, y1, y2, y3, s =>
    if 3 ≤ y3 then
      stA s aX_may 65 (24 + y1) 0 fun s5 =>
      ldA s5 aX_ledNow 4 1 fun v6 =>
      stA s5 aX_ledNow 4 1 (v6 + 1) fun s7 =>
      some (y2, s7)
    else
      stA s aX_may 65 ((3 * y1) + y3) 6 fun s8 =>
      bnd (y3 + 1) fun v9 =>
      fX11_clean_b23 k y1 y2 v9 s8

def fX11_clean (x1 : Int32) (s : mS) : Option (Int32 × mS) :=
  bO (fX11_isMachine (Int32.toInt64 x1) s) fun r1 =>
  if r1 = 0 then
    some ((-1), s)
  else
    ldA s aX_may 65 (24 + x1) fun v2 =>
    bnd v2 fun v3 =>
    bnd 0 fun v4 =>
    fX11_clean_b23 mFu x1 v3 v4 s

set_option maxRecDepth 20000 in
theorem wX11_clean_b23 {ρ : mRo} {d : Nat} {P : mPo} {V : mS → List mE} (hV : mView LX V)  {res : (Int32 × mS)} (hP : P (some (.int res.1)) (V res.2)) : ∀ (k : Nat) (y1 : Int32) (y2 : Int32) (y3 : Int32) (s : mS), fX11_clean_b23 k y1 y2 y3 s = some res → mG ρ (mC ρ (d + 2)) 11 4 cX11_clean (some .int) P 23 [(0, .ref qX), (1, .int y1), (2, .int y2), (3, .int y3)] [] (V s) := by
  intro k
  induction k with
  | zero => intro y1 y2 y3 s hf; rw [fX11_clean_b23] at hf; cases hf
  | succ k ih =>
    intro y1 y2 y3 s hf
    rw [fX11_clean_b23] at hf
    refine e_iload_n 3 dX11_clean_23 rfl rfl ?_
    refine e_iconst (w := 3) dX11_clean_24 (by decide) ?_
    refine e_icmp_ge 46 dX11_clean_25 (by decide) hf (fun hf => ?_) (fun hf => ?_)
    · refine e_aload_n 0 dX11_clean_46 rfl rfl ?_
      refine e_getr hV dX11_clean_47 rfl lx_X rfl ?_
      refine e_bipush (w := 24) dX11_clean_50 (by decide) ?_
      refine e_iload_n 1 dX11_clean_52 rfl rfl ?_
      refine e_iadd dX11_clean_53 ?_
      refine e_iconst (w := 0) dX11_clean_54 (by decide) ?_
      refine e_iast hV dX11_clean_55 lx_X_may hf (fun s5 hf => ?_)
      refine e_aload_n 0 dX11_clean_56 rfl rfl ?_
      refine e_getr hV dX11_clean_57 rfl lx_X rfl ?_
      refine e_iconst (w := 1) dX11_clean_60 (by decide) ?_
      refine e_dup2 dX11_clean_61 rfl rfl ?_
      refine e_iald hV dX11_clean_62 lx_X_ledNow hf (fun v6 hf => ?_)
      refine e_iconst (w := 1) dX11_clean_63 (by decide) ?_
      refine e_iadd dX11_clean_64 ?_
      refine e_iast hV dX11_clean_65 lx_X_ledNow hf (fun s7 hf => ?_)
      refine e_iload_n 2 dX11_clean_66 rfl rfl ?_
      cases hf
      exact e_iret dX11_clean_67 trivial hP
    · refine e_aload_n 0 dX11_clean_28 rfl rfl ?_
      refine e_getr hV dX11_clean_29 rfl lx_X rfl ?_
      refine e_iconst (w := 3) dX11_clean_32 (by decide) ?_
      refine e_iload_n 1 dX11_clean_33 rfl rfl ?_
      refine e_imul dX11_clean_34 ?_
      refine e_iload_n 3 dX11_clean_35 rfl rfl ?_
      refine e_iadd dX11_clean_36 ?_
      refine e_bipush (w := 6) dX11_clean_37 (by decide) ?_
      refine e_iast hV dX11_clean_39 lx_X_may hf (fun s8 hf => ?_)
      refine e_iinc 3 dX11_clean_40 rfl rfl hf (fun v9 hf => ?_)
      refine e_goto 23 dX11_clean_43 (by decide) ?_
      refine e_pick [1, 2, 3, 0] rfl ?_
      exact ih y1 y2 v9 s8 hf
set_option maxRecDepth 20000 in
theorem tX11_clean {ρ : mRo} {d : Nat} {P : mPo} {V : mS → List mE} (hV : mView LX V)  {x1 : Int32} {s : mS} {res : (Int32 × mS)} (hf : fX11_clean x1 s = some res) (hP : P (some (.int res.1)) (V res.2)) : mC ρ (d + 3) 206 [.ref qX, .int x1] (V s) P := by
  refine ⟨_, rfl, Nat.le_of_ble_eq_true rfl, by decide, ?_⟩
  show mG ρ (mC ρ (d + 2)) 11 4 cX11_clean (some .int) P 0 [(0, .ref qX), (1, .int x1)] [] (V s)
  unfold fX11_clean at hf
  refine e_aload_n 0 dX11_clean_0 rfl rfl ?_
  refine e_iload_n 1 dX11_clean_1 rfl rfl ?_
  refine e_i2l dX11_clean_2 ?_
  obtain ⟨r1, hg, hf⟩ := bO_some hf
  refine e_callV (as := [.long (Int32.toInt64 x1)]) (v := (some (.int r1))) (s' := s) hV dX11_clean_3 (Or.inl rfl) rfl rfl rfl rfl (Nat.le_of_ble_eq_true rfl) lx_X rfl rfl (fun Q hQ => tX11_isMachine (d := d) hV  hg hQ) ?_
  refine e_if_ne 11 dX11_clean_6 (by decide) hf (fun hf => ?_) (fun hf => ?_)
  · refine e_aload_n 0 dX11_clean_11 rfl rfl ?_
    refine e_getr hV dX11_clean_12 rfl lx_X rfl ?_
    refine e_bipush (w := 24) dX11_clean_15 (by decide) ?_
    refine e_iload_n 1 dX11_clean_17 rfl rfl ?_
    refine e_iadd dX11_clean_18 ?_
    refine e_iald hV dX11_clean_19 lx_X_may hf (fun v2 hf => ?_)
    refine e_istore_n dX11_clean_20 rfl (by decide) hf (fun v3 hf => ?_)
    refine e_iconst (w := 0) dX11_clean_21 (by decide) ?_
    refine e_istore_n dX11_clean_22 rfl (by decide) hf (fun v4 hf => ?_)
    refine e_pick [2, 3, 1, 0] rfl ?_
    exact wX11_clean_b23 hV hP mFu x1 v3 v4 s hf
  · refine e_iconst (w := (-1)) dX11_clean_9 (by decide) ?_
    cases hf
    exact e_iret dX11_clean_10 trivial hP

theorem dX11_learn_0 : decode cX11_learn 0 = .ok (.aload_n 0, 1) := by decide +kernel
theorem dX11_learn_1 : decode cX11_learn 1 = .ok (.iload_n 1, 1) := by decide +kernel
theorem dX11_learn_2 : decode cX11_learn 2 = .ok (.invokevirtual 214, 3) := by decide +kernel
theorem dX11_learn_5 : decode cX11_learn 5 = .ok (.ifCond .ne 5, 3) := by decide +kernel
theorem dX11_learn_8 : decode cX11_learn 8 = .ok (.iconst (-1), 1) := by decide +kernel
theorem dX11_learn_9 : decode cX11_learn 9 = .ok (.ireturn, 1) := by decide +kernel
theorem dX11_learn_10 : decode cX11_learn 10 = .ok (.iconst 0, 1) := by decide +kernel
theorem dX11_learn_11 : decode cX11_learn 11 = .ok (.istore_n 2, 1) := by decide +kernel
theorem dX11_learn_12 : decode cX11_learn 12 = .ok (.iconst 0, 1) := by decide +kernel
theorem dX11_learn_13 : decode cX11_learn 13 = .ok (.istore_n 3, 1) := by decide +kernel
theorem dX11_learn_14 : decode cX11_learn 14 = .ok (.iload_n 3, 1) := by decide +kernel
theorem dX11_learn_15 : decode cX11_learn 15 = .ok (.iconst 3, 1) := by decide +kernel
theorem dX11_learn_16 : decode cX11_learn 16 = .ok (.if_icmp .ge 65, 3) := by decide +kernel
theorem dX11_learn_19 : decode cX11_learn 19 = .ok (.bipush 32, 2) := by decide +kernel
theorem dX11_learn_21 : decode cX11_learn 21 = .ok (.iconst 3, 1) := by decide +kernel
theorem dX11_learn_22 : decode cX11_learn 22 = .ok (.iload_n 1, 1) := by decide +kernel
theorem dX11_learn_23 : decode cX11_learn 23 = .ok (.bipush 10, 2) := by decide +kernel
theorem dX11_learn_25 : decode cX11_learn 25 = .ok (.idiv, 1) := by decide +kernel
theorem dX11_learn_26 : decode cX11_learn 26 = .ok (.imul, 1) := by decide +kernel
theorem dX11_learn_27 : decode cX11_learn 27 = .ok (.iadd, 1) := by decide +kernel
theorem dX11_learn_28 : decode cX11_learn 28 = .ok (.iload_n 3, 1) := by decide +kernel
theorem dX11_learn_29 : decode cX11_learn 29 = .ok (.iadd, 1) := by decide +kernel
theorem dX11_learn_30 : decode cX11_learn 30 = .ok (.istore 4, 2) := by decide +kernel
theorem dX11_learn_32 : decode cX11_learn 32 = .ok (.aload_n 0, 1) := by decide +kernel
theorem dX11_learn_33 : decode cX11_learn 33 = .ok (.getfield 9, 3) := by decide +kernel
theorem dX11_learn_36 : decode cX11_learn 36 = .ok (.iload 4, 2) := by decide +kernel
theorem dX11_learn_38 : decode cX11_learn 38 = .ok (.aload_n 0, 1) := by decide +kernel
theorem dX11_learn_39 : decode cX11_learn 39 = .ok (.getfield 9, 3) := by decide +kernel
theorem dX11_learn_42 : decode cX11_learn 42 = .ok (.iload 4, 2) := by decide +kernel
theorem dX11_learn_44 : decode cX11_learn 44 = .ok (.iaload, 1) := by decide +kernel
theorem dX11_learn_45 : decode cX11_learn 45 = .ok (.aload_n 0, 1) := by decide +kernel
theorem dX11_learn_46 : decode cX11_learn 46 = .ok (.getfield 9, 3) := by decide +kernel
theorem dX11_learn_49 : decode cX11_learn 49 = .ok (.iconst 3, 1) := by decide +kernel
theorem dX11_learn_50 : decode cX11_learn 50 = .ok (.iload_n 1, 1) := by decide +kernel
theorem dX11_learn_51 : decode cX11_learn 51 = .ok (.bipush 10, 2) := by decide +kernel
theorem dX11_learn_53 : decode cX11_learn 53 = .ok (.irem, 1) := by decide +kernel
theorem dX11_learn_54 : decode cX11_learn 54 = .ok (.imul, 1) := by decide +kernel
theorem dX11_learn_55 : decode cX11_learn 55 = .ok (.iload_n 3, 1) := by decide +kernel
theorem dX11_learn_56 : decode cX11_learn 56 = .ok (.iadd, 1) := by decide +kernel
theorem dX11_learn_57 : decode cX11_learn 57 = .ok (.iaload, 1) := by decide +kernel
theorem dX11_learn_58 : decode cX11_learn 58 = .ok (.invokestatic 211, 3) := by decide +kernel
theorem dX11_learn_61 : decode cX11_learn 61 = .ok (.iastore, 1) := by decide +kernel
theorem dX11_learn_62 : decode cX11_learn 62 = .ok (.bipush 13, 2) := by decide +kernel
theorem dX11_learn_64 : decode cX11_learn 64 = .ok (.iload_n 2, 1) := by decide +kernel
theorem dX11_learn_65 : decode cX11_learn 65 = .ok (.imul, 1) := by decide +kernel
theorem dX11_learn_66 : decode cX11_learn 66 = .ok (.aload_n 0, 1) := by decide +kernel
theorem dX11_learn_67 : decode cX11_learn 67 = .ok (.getfield 9, 3) := by decide +kernel
theorem dX11_learn_70 : decode cX11_learn 70 = .ok (.iload 4, 2) := by decide +kernel
theorem dX11_learn_72 : decode cX11_learn 72 = .ok (.iaload, 1) := by decide +kernel
theorem dX11_learn_73 : decode cX11_learn 73 = .ok (.iadd, 1) := by decide +kernel
theorem dX11_learn_74 : decode cX11_learn 74 = .ok (.istore_n 2, 1) := by decide +kernel
theorem dX11_learn_75 : decode cX11_learn 75 = .ok (.iinc 3 1, 3) := by decide +kernel
theorem dX11_learn_78 : decode cX11_learn 78 = .ok (.goto (-64), 3) := by decide +kernel
theorem dX11_learn_81 : decode cX11_learn 81 = .ok (.aload_n 0, 1) := by decide +kernel
theorem dX11_learn_82 : decode cX11_learn 82 = .ok (.getfield 53, 3) := by decide +kernel
theorem dX11_learn_85 : decode cX11_learn 85 = .ok (.iconst 2, 1) := by decide +kernel
theorem dX11_learn_86 : decode cX11_learn 86 = .ok (.dup2, 1) := by decide +kernel
theorem dX11_learn_87 : decode cX11_learn 87 = .ok (.iaload, 1) := by decide +kernel
theorem dX11_learn_88 : decode cX11_learn 88 = .ok (.iconst 1, 1) := by decide +kernel
theorem dX11_learn_89 : decode cX11_learn 89 = .ok (.iadd, 1) := by decide +kernel
theorem dX11_learn_90 : decode cX11_learn 90 = .ok (.iastore, 1) := by decide +kernel
theorem dX11_learn_91 : decode cX11_learn 91 = .ok (.iload_n 2, 1) := by decide +kernel
theorem dX11_learn_92 : decode cX11_learn 92 = .ok (.ireturn, 1) := by decide +kernel
def fX11_learn_b14 : Nat → Int32 → Int32 → Int32 → mS → Option (Int32 × mS)
  | 0, _, _, _, _ => none
  | k + 1, y1, y2, y3, s =>
    if 3 ≤ y3 then
      ldA s aX_ledNow 4 2 fun v4 =>
      stA s aX_ledNow 4 2 (v4 + 1) fun s5 =>
      some (y2, s5)
    else
      bnd ((32 + (3 * (y1 / 10))) + y3) fun v6 =>
      ldA s aX_may 65 v6 fun v7 =>
      ldA s aX_may 65 ((3 * (y1 - y1 / 10 * 10)) + y3) fun v8 =>
      bO (fX11_nearer v7 v8 s) fun r9 =>
      stA s aX_may 65 v6 r9 fun s10 =>
      ldA s10 aX_may 65 v6 fun v11 =>
      bnd ((13 * y2) + v11) fun v12 =>
      bnd (y3 + 1) fun v13 =>
      fX11_learn_b14 k y1 v12 v13 s10

def fX11_learn (x1 : Int32) (s : mS) : Option (Int32 × mS) :=
  bO (fX11_isWm x1 s) fun r1 =>
  if r1 = 0 then
    some ((-1), s)
  else
    bnd 0 fun v2 =>
    bnd 0 fun v3 =>
    fX11_learn_b14 mFu x1 v2 v3 s

set_option maxRecDepth 20000 in
theorem wX11_learn_b14 {ρ : mRo} {d : Nat} {P : mPo} {V : mS → List mE} (hV : mView LX V)  {res : (Int32 × mS)} (hP : P (some (.int res.1)) (V res.2)) : ∀ (k : Nat) (y1 : Int32) (y2 : Int32) (y3 : Int32) (s : mS), fX11_learn_b14 k y1 y2 y3 s = some res → mG ρ (mC ρ (d + 3)) 11 5 cX11_learn (some .int) P 14 [(0, .ref qX), (1, .int y1), (2, .int y2), (3, .int y3)] [] (V s) := by
  intro k
  induction k with
  | zero => intro y1 y2 y3 s hf; rw [fX11_learn_b14] at hf; cases hf
  | succ k ih =>
    intro y1 y2 y3 s hf
    rw [fX11_learn_b14] at hf
    refine e_iload_n 3 dX11_learn_14 rfl rfl ?_
    refine e_iconst (w := 3) dX11_learn_15 (by decide) ?_
    refine e_icmp_ge 81 dX11_learn_16 (by decide) hf (fun hf => ?_) (fun hf => ?_)
    · refine e_aload_n 0 dX11_learn_81 rfl rfl ?_
      refine e_getr hV dX11_learn_82 rfl lx_X rfl ?_
      refine e_iconst (w := 2) dX11_learn_85 (by decide) ?_
      refine e_dup2 dX11_learn_86 rfl rfl ?_
      refine e_iald hV dX11_learn_87 lx_X_ledNow hf (fun v4 hf => ?_)
      refine e_iconst (w := 1) dX11_learn_88 (by decide) ?_
      refine e_iadd dX11_learn_89 ?_
      refine e_iast hV dX11_learn_90 lx_X_ledNow hf (fun s5 hf => ?_)
      refine e_iload_n 2 dX11_learn_91 rfl rfl ?_
      cases hf
      exact e_iret dX11_learn_92 trivial hP
    · refine e_bipush (w := 32) dX11_learn_19 (by decide) ?_
      refine e_iconst (w := 3) dX11_learn_21 (by decide) ?_
      refine e_iload_n 1 dX11_learn_22 rfl rfl ?_
      refine e_bipush (w := 10) dX11_learn_23 (by decide) ?_
      refine e_idiv dX11_learn_25 (by decide) ?_
      refine e_imul dX11_learn_26 ?_
      refine e_iadd dX11_learn_27 ?_
      refine e_iload_n 3 dX11_learn_28 rfl rfl ?_
      refine e_iadd dX11_learn_29 ?_
      refine e_istore dX11_learn_30 (by decide) hf (fun v6 hf => ?_)
      refine e_aload_n 1 dX11_learn_32 rfl rfl ?_
      refine e_getr hV dX11_learn_33 rfl lx_X rfl ?_
      refine e_iload 0 dX11_learn_36 rfl ?_
      refine e_aload_n 1 dX11_learn_38 rfl rfl ?_
      refine e_getr hV dX11_learn_39 rfl lx_X rfl ?_
      refine e_iload 0 dX11_learn_42 rfl ?_
      refine e_iald hV dX11_learn_44 lx_X_may hf (fun v7 hf => ?_)
      refine e_aload_n 1 dX11_learn_45 rfl rfl ?_
      refine e_getr hV dX11_learn_46 rfl lx_X rfl ?_
      refine e_iconst (w := 3) dX11_learn_49 (by decide) ?_
      refine e_iload_n 2 dX11_learn_50 rfl rfl ?_
      refine e_bipush (w := 10) dX11_learn_51 (by decide) ?_
      refine e_irem dX11_learn_53 (by decide) ?_
      refine e_imul dX11_learn_54 ?_
      refine e_iload_n 4 dX11_learn_55 rfl rfl ?_
      refine e_iadd dX11_learn_56 ?_
      refine e_iald hV dX11_learn_57 lx_X_may hf (fun v8 hf => ?_)
      obtain ⟨r9, hg, hf⟩ := bO_some hf
      refine e_callS (as := [.int v7, .int v8]) (v := (some (.int r9))) (s' := s) dX11_learn_58 rfl rfl rfl rfl rfl (Nat.le_of_ble_eq_true rfl) (fun Q hQ => tX11_nearer (d := (d + 2)) hV  hg hQ) ?_
      refine e_iast hV dX11_learn_61 lx_X_may hf (fun s10 hf => ?_)
      refine e_bipush (w := 13) dX11_learn_62 (by decide) ?_
      refine e_iload_n 3 dX11_learn_64 rfl rfl ?_
      refine e_imul dX11_learn_65 ?_
      refine e_aload_n 1 dX11_learn_66 rfl rfl ?_
      refine e_getr hV dX11_learn_67 rfl lx_X rfl ?_
      refine e_iload 0 dX11_learn_70 rfl ?_
      refine e_iald hV dX11_learn_72 lx_X_may hf (fun v11 hf => ?_)
      refine e_iadd dX11_learn_73 ?_
      refine e_istore_n dX11_learn_74 rfl (by decide) hf (fun v12 hf => ?_)
      refine e_iinc 4 dX11_learn_75 rfl rfl hf (fun v13 hf => ?_)
      refine e_goto 14 dX11_learn_78 (by decide) ?_
      refine e_pick [3, 4, 1, 0] rfl ?_
      exact ih y1 v12 v13 s10 hf
set_option maxRecDepth 20000 in
theorem tX11_learn {ρ : mRo} {d : Nat} {P : mPo} {V : mS → List mE} (hV : mView LX V)  {x1 : Int32} {s : mS} {res : (Int32 × mS)} (hf : fX11_learn x1 s = some res) (hP : P (some (.int res.1)) (V res.2)) : mC ρ (d + 4) 207 [.ref qX, .int x1] (V s) P := by
  refine ⟨_, rfl, Nat.le_of_ble_eq_true rfl, by decide, ?_⟩
  show mG ρ (mC ρ (d + 3)) 11 5 cX11_learn (some .int) P 0 [(0, .ref qX), (1, .int x1)] [] (V s)
  unfold fX11_learn at hf
  refine e_aload_n 0 dX11_learn_0 rfl rfl ?_
  refine e_iload_n 1 dX11_learn_1 rfl rfl ?_
  obtain ⟨r1, hg, hf⟩ := bO_some hf
  refine e_callV (as := [.int x1]) (v := (some (.int r1))) (s' := s) hV dX11_learn_2 (Or.inl rfl) rfl rfl rfl rfl (Nat.le_of_ble_eq_true rfl) lx_X rfl rfl (fun Q hQ => tX11_isWm (d := d) hV  hg hQ) ?_
  refine e_if_ne 10 dX11_learn_5 (by decide) hf (fun hf => ?_) (fun hf => ?_)
  · refine e_iconst (w := 0) dX11_learn_10 (by decide) ?_
    refine e_istore_n dX11_learn_11 rfl (by decide) hf (fun v2 hf => ?_)
    refine e_iconst (w := 0) dX11_learn_12 (by decide) ?_
    refine e_istore_n dX11_learn_13 rfl (by decide) hf (fun v3 hf => ?_)
    refine e_pick [2, 3, 1, 0] rfl ?_
    exact wX11_learn_b14 hV hP mFu x1 v2 v3 s hf
  · refine e_iconst (w := (-1)) dX11_learn_8 (by decide) ?_
    cases hf
    exact e_iret dX11_learn_9 trivial hP

theorem dX11_led_0 : decode cX11_led 0 = .ok (.iload_n 1, 1) := by decide +kernel
theorem dX11_led_1 : decode cX11_led 1 = .ok (.i2l, 1) := by decide +kernel
theorem dX11_led_2 : decode cX11_led 2 = .ok (.lconst 0, 1) := by decide +kernel
theorem dX11_led_3 : decode cX11_led 3 = .ok (.ldc2_w 232, 3) := by decide +kernel
theorem dX11_led_6 : decode cX11_led 6 = .ok (.invokestatic 93, 3) := by decide +kernel
theorem dX11_led_9 : decode cX11_led 9 = .ok (.ifCond .eq 12, 3) := by decide +kernel
theorem dX11_led_12 : decode cX11_led 12 = .ok (.aload_n 0, 1) := by decide +kernel
theorem dX11_led_13 : decode cX11_led 13 = .ok (.getfield 53, 3) := by decide +kernel
theorem dX11_led_16 : decode cX11_led 16 = .ok (.iload_n 1, 1) := by decide +kernel
theorem dX11_led_17 : decode cX11_led 17 = .ok (.iaload, 1) := by decide +kernel
theorem dX11_led_18 : decode cX11_led 18 = .ok (.goto 28, 3) := by decide +kernel
theorem dX11_led_21 : decode cX11_led 21 = .ok (.iload_n 1, 1) := by decide +kernel
theorem dX11_led_22 : decode cX11_led 22 = .ok (.iconst 4, 1) := by decide +kernel
theorem dX11_led_23 : decode cX11_led 23 = .ok (.if_icmp .eq 7, 3) := by decide +kernel
theorem dX11_led_26 : decode cX11_led 26 = .ok (.iconst (-1), 1) := by decide +kernel
theorem dX11_led_27 : decode cX11_led 27 = .ok (.goto 19, 3) := by decide +kernel
theorem dX11_led_30 : decode cX11_led 30 = .ok (.aload_n 0, 1) := by decide +kernel
theorem dX11_led_31 : decode cX11_led 31 = .ok (.getfield 49, 3) := by decide +kernel
theorem dX11_led_34 : decode cX11_led 34 = .ok (.ifCond .ge 8, 3) := by decide +kernel
theorem dX11_led_37 : decode cX11_led 37 = .ok (.bipush (-2), 2) := by decide +kernel
theorem dX11_led_39 : decode cX11_led 39 = .ok (.goto 7, 3) := by decide +kernel
theorem dX11_led_42 : decode cX11_led 42 = .ok (.aload_n 0, 1) := by decide +kernel
theorem dX11_led_43 : decode cX11_led 43 = .ok (.getfield 49, 3) := by decide +kernel
theorem dX11_led_46 : decode cX11_led 46 = .ok (.ireturn, 1) := by decide +kernel
def fX11_led (x1 : Int32) (s : mS) : Option Int32 :=
  bO (fX11_within (Int32.toInt64 x1) 0 3 s) fun r1 =>
  if r1 = 0 then
    if x1 = 4 then
      if 0 ≤ (gI s iX_latest) then
        some (gI s iX_latest)
      else
        some (-2)
    else
      some (-1)
  else
    ldA s aX_ledNow 4 x1 fun v2 =>
    some v2

set_option maxRecDepth 20000 in
theorem tX11_led {ρ : mRo} {d : Nat} {P : mPo} {V : mS → List mE} (hV : mView LX V)  {x1 : Int32} {s : mS} {res : Int32} (hf : fX11_led x1 s = some res) (hP : P (some (.int res)) (V s)) : mC ρ (d + 2) 208 [.ref qX, .int x1] (V s) P := by
  refine ⟨_, rfl, Nat.le_of_ble_eq_true rfl, by decide, ?_⟩
  show mG ρ (mC ρ (d + 1)) 11 2 cX11_led (some .int) P 0 [(0, .ref qX), (1, .int x1)] [] (V s)
  unfold fX11_led at hf
  refine e_iload_n 1 dX11_led_0 rfl rfl ?_
  refine e_i2l dX11_led_1 ?_
  refine e_lconst (w := 0) dX11_led_2 (by decide) ?_
  refine e_ldc2_w (w := 3) dX11_led_3 rfl ?_
  obtain ⟨r1, hg, hf⟩ := bO_some hf
  refine e_callS (as := [.long (Int32.toInt64 x1), .long 0, .long 3]) (v := (some (.int r1))) (s' := s) dX11_led_6 rfl rfl rfl rfl rfl (Nat.le_of_ble_eq_true rfl) (fun Q hQ => tX11_within (d := d) hV  hg hQ) ?_
  refine e_if_eq 21 dX11_led_9 (by decide) hf (fun hf => ?_) (fun hf => ?_)
  · refine e_iload_n 1 dX11_led_21 rfl rfl ?_
    refine e_iconst (w := 4) dX11_led_22 (by decide) ?_
    refine e_icmp_eq 30 dX11_led_23 (by decide) hf (fun hf => ?_) (fun hf => ?_)
    · refine e_aload_n 0 dX11_led_30 rfl rfl ?_
      refine e_geti hV dX11_led_31 rfl lx_X rfl ?_
      refine e_if_ge 42 dX11_led_34 (by decide) hf (fun hf => ?_) (fun hf => ?_)
      · refine e_aload_n 0 dX11_led_42 rfl rfl ?_
        refine e_geti hV dX11_led_43 rfl lx_X rfl ?_
        cases hf
        exact e_iret dX11_led_46 trivial hP
      · refine e_bipush (w := (-2)) dX11_led_37 (by decide) ?_
        refine e_goto 46 dX11_led_39 (by decide) ?_
        cases hf
        exact e_iret dX11_led_46 trivial hP
    · refine e_iconst (w := (-1)) dX11_led_26 (by decide) ?_
      refine e_goto 46 dX11_led_27 (by decide) ?_
      cases hf
      exact e_iret dX11_led_46 trivial hP
  · refine e_aload_n 0 dX11_led_12 rfl rfl ?_
    refine e_getr hV dX11_led_13 rfl lx_X rfl ?_
    refine e_iload_n 1 dX11_led_16 rfl rfl ?_
    refine e_iald hV dX11_led_17 lx_X_ledNow hf (fun v2 hf => ?_)
    refine e_goto 46 dX11_led_18 (by decide) ?_
    cases hf
    exact e_iret dX11_led_46 trivial hP

theorem dX11_image_0 : decode cX11_image 0 = .ok (.aload_n 0, 1) := by decide +kernel
theorem dX11_image_1 : decode cX11_image 1 = .ok (.iconst 1, 1) := by decide +kernel
theorem dX11_image_2 : decode cX11_image 2 = .ok (.putfield 269, 3) := by decide +kernel
theorem dX11_image_5 : decode cX11_image 5 = .ok (.aload_n 0, 1) := by decide +kernel
theorem dX11_image_6 : decode cX11_image 6 = .ok (.aload_n 0, 1) := by decide +kernel
theorem dX11_image_7 : decode cX11_image 7 = .ok (.getfield 90, 3) := by decide +kernel
theorem dX11_image_10 : decode cX11_image 10 = .ok (.putfield 273, 3) := by decide +kernel
theorem dX11_image_13 : decode cX11_image 13 = .ok (.aload_n 0, 1) := by decide +kernel
theorem dX11_image_14 : decode cX11_image 14 = .ok (.aload_n 0, 1) := by decide +kernel
theorem dX11_image_15 : decode cX11_image 15 = .ok (.getfield 97, 3) := by decide +kernel
theorem dX11_image_18 : decode cX11_image 18 = .ok (.putfield 276, 3) := by decide +kernel
theorem dX11_image_21 : decode cX11_image 21 = .ok (.aload_n 0, 1) := by decide +kernel
theorem dX11_image_22 : decode cX11_image 22 = .ok (.aload_n 0, 1) := by decide +kernel
theorem dX11_image_23 : decode cX11_image 23 = .ok (.getfield 49, 3) := by decide +kernel
theorem dX11_image_26 : decode cX11_image 26 = .ok (.putfield 279, 3) := by decide +kernel
theorem dX11_image_29 : decode cX11_image 29 = .ok (.iconst 0, 1) := by decide +kernel
theorem dX11_image_30 : decode cX11_image 30 = .ok (.istore_n 1, 1) := by decide +kernel
theorem dX11_image_31 : decode cX11_image 31 = .ok (.iload_n 1, 1) := by decide +kernel
theorem dX11_image_32 : decode cX11_image 32 = .ok (.bipush 56, 2) := by decide +kernel
theorem dX11_image_34 : decode cX11_image 34 = .ok (.if_icmp .ge 21, 3) := by decide +kernel
theorem dX11_image_37 : decode cX11_image 37 = .ok (.aload_n 0, 1) := by decide +kernel
theorem dX11_image_38 : decode cX11_image 38 = .ok (.getfield 56, 3) := by decide +kernel
theorem dX11_image_41 : decode cX11_image 41 = .ok (.iload_n 1, 1) := by decide +kernel
theorem dX11_image_42 : decode cX11_image 42 = .ok (.aload_n 0, 1) := by decide +kernel
theorem dX11_image_43 : decode cX11_image 43 = .ok (.getfield 9, 3) := by decide +kernel
theorem dX11_image_46 : decode cX11_image 46 = .ok (.iload_n 1, 1) := by decide +kernel
theorem dX11_image_47 : decode cX11_image 47 = .ok (.iaload, 1) := by decide +kernel
theorem dX11_image_48 : decode cX11_image 48 = .ok (.iastore, 1) := by decide +kernel
theorem dX11_image_49 : decode cX11_image 49 = .ok (.iinc 1 1, 3) := by decide +kernel
theorem dX11_image_52 : decode cX11_image 52 = .ok (.goto (-21), 3) := by decide +kernel
theorem dX11_image_55 : decode cX11_image 55 = .ok (.iconst 0, 1) := by decide +kernel
theorem dX11_image_56 : decode cX11_image 56 = .ok (.istore_n 1, 1) := by decide +kernel
theorem dX11_image_57 : decode cX11_image 57 = .ok (.iload_n 1, 1) := by decide +kernel
theorem dX11_image_58 : decode cX11_image 58 = .ok (.iconst 4, 1) := by decide +kernel
theorem dX11_image_59 : decode cX11_image 59 = .ok (.if_icmp .ge 21, 3) := by decide +kernel
theorem dX11_image_62 : decode cX11_image 62 = .ok (.aload_n 0, 1) := by decide +kernel
theorem dX11_image_63 : decode cX11_image 63 = .ok (.getfield 59, 3) := by decide +kernel
theorem dX11_image_66 : decode cX11_image 66 = .ok (.iload_n 1, 1) := by decide +kernel
theorem dX11_image_67 : decode cX11_image 67 = .ok (.aload_n 0, 1) := by decide +kernel
theorem dX11_image_68 : decode cX11_image 68 = .ok (.getfield 53, 3) := by decide +kernel
theorem dX11_image_71 : decode cX11_image 71 = .ok (.iload_n 1, 1) := by decide +kernel
theorem dX11_image_72 : decode cX11_image 72 = .ok (.iaload, 1) := by decide +kernel
theorem dX11_image_73 : decode cX11_image 73 = .ok (.iastore, 1) := by decide +kernel
theorem dX11_image_74 : decode cX11_image 74 = .ok (.iinc 1 1, 3) := by decide +kernel
theorem dX11_image_77 : decode cX11_image 77 = .ok (.goto (-20), 3) := by decide +kernel
theorem dX11_image_80 : decode cX11_image 80 = .ok (.aload_n 0, 1) := by decide +kernel
theorem dX11_image_81 : decode cX11_image 81 = .ok (.getfield 53, 3) := by decide +kernel
theorem dX11_image_84 : decode cX11_image 84 = .ok (.iconst 0, 1) := by decide +kernel
theorem dX11_image_85 : decode cX11_image 85 = .ok (.iaload, 1) := by decide +kernel
theorem dX11_image_86 : decode cX11_image 86 = .ok (.ireturn, 1) := by decide +kernel
def fX11_image_b57 : Nat → Int32 → mS → Option (Int32 × mS)
  | 0, _, _ => none
  | k + 1, y1, s =>
    if 4 ≤ y1 then
      ldA s aX_ledNow 4 0 fun v7 =>
      some (v7, s)
    else
      ldA s aX_ledNow 4 y1 fun v8 =>
      stA s aX_imageLed 4 y1 v8 fun s9 =>
      bnd (y1 + 1) fun v10 =>
      fX11_image_b57 k v10 s9

def fX11_image_b31 : Nat → Int32 → mS → Option (Int32 × mS)
  | 0, _, _ => none
  | k + 1, y1, s =>
    if 56 ≤ y1 then
      bnd 0 fun v6 =>
      fX11_image_b57 mFu v6 s
    else
      ldA s aX_may 65 y1 fun v11 =>
      stA s aX_imageMay 56 y1 v11 fun s12 =>
      bnd (y1 + 1) fun v13 =>
      fX11_image_b31 k v13 s12

def fX11_image (s : mS) : Option (Int32 × mS) :=
  bnd (pI s iX_isKept 1) fun s1 =>
  bnd (pI s1 iX_imageMachines (gI s1 iX_machines)) fun s2 =>
  bnd (pI s2 iX_imageWriters (gI s2 iX_writers)) fun s3 =>
  bnd (pI s3 iX_imageLatest (gI s3 iX_latest)) fun s4 =>
  bnd 0 fun v5 =>
  fX11_image_b31 mFu v5 s4

set_option maxRecDepth 20000 in
theorem wX11_image_b57 {ρ : mRo} {d : Nat} {P : mPo} {V : mS → List mE} (hV : mView LX V)  {res : (Int32 × mS)} (hP : P (some (.int res.1)) (V res.2)) : ∀ (k : Nat) (y1 : Int32) (s : mS), fX11_image_b57 k y1 s = some res → mG ρ (mC ρ d) 11 2 cX11_image (some .int) P 57 [(0, .ref qX), (1, .int y1)] [] (V s) := by
  intro k
  induction k with
  | zero => intro y1 s hf; rw [fX11_image_b57] at hf; cases hf
  | succ k ih =>
    intro y1 s hf
    rw [fX11_image_b57] at hf
    refine e_iload_n 1 dX11_image_57 rfl rfl ?_
    refine e_iconst (w := 4) dX11_image_58 (by decide) ?_
    refine e_icmp_ge 80 dX11_image_59 (by decide) hf (fun hf => ?_) (fun hf => ?_)
    · refine e_aload_n 0 dX11_image_80 rfl rfl ?_
      refine e_getr hV dX11_image_81 rfl lx_X rfl ?_
      refine e_iconst (w := 0) dX11_image_84 (by decide) ?_
      refine e_iald hV dX11_image_85 lx_X_ledNow hf (fun v7 hf => ?_)
      cases hf
      exact e_iret dX11_image_86 trivial hP
    · refine e_aload_n 0 dX11_image_62 rfl rfl ?_
      refine e_getr hV dX11_image_63 rfl lx_X rfl ?_
      refine e_iload_n 1 dX11_image_66 rfl rfl ?_
      refine e_aload_n 0 dX11_image_67 rfl rfl ?_
      refine e_getr hV dX11_image_68 rfl lx_X rfl ?_
      refine e_iload_n 1 dX11_image_71 rfl rfl ?_
      refine e_iald hV dX11_image_72 lx_X_ledNow hf (fun v8 hf => ?_)
      refine e_iast hV dX11_image_73 lx_X_imageLed hf (fun s9 hf => ?_)
      refine e_iinc 1 dX11_image_74 rfl rfl hf (fun v10 hf => ?_)
      refine e_goto 57 dX11_image_77 (by decide) ?_
      refine e_pick [1, 0] rfl ?_
      exact ih v10 s9 hf
set_option maxRecDepth 20000 in
theorem wX11_image_b31 {ρ : mRo} {d : Nat} {P : mPo} {V : mS → List mE} (hV : mView LX V)  {res : (Int32 × mS)} (hP : P (some (.int res.1)) (V res.2)) : ∀ (k : Nat) (y1 : Int32) (s : mS), fX11_image_b31 k y1 s = some res → mG ρ (mC ρ d) 11 2 cX11_image (some .int) P 31 [(0, .ref qX), (1, .int y1)] [] (V s) := by
  intro k
  induction k with
  | zero => intro y1 s hf; rw [fX11_image_b31] at hf; cases hf
  | succ k ih =>
    intro y1 s hf
    rw [fX11_image_b31] at hf
    refine e_iload_n 1 dX11_image_31 rfl rfl ?_
    refine e_bipush (w := 56) dX11_image_32 (by decide) ?_
    refine e_icmp_ge 55 dX11_image_34 (by decide) hf (fun hf => ?_) (fun hf => ?_)
    · refine e_iconst (w := 0) dX11_image_55 (by decide) ?_
      refine e_istore_n dX11_image_56 rfl (by decide) hf (fun v6 hf => ?_)
      refine e_pick [1, 0] rfl ?_
      exact wX11_image_b57 hV hP mFu v6 s hf
    · refine e_aload_n 0 dX11_image_37 rfl rfl ?_
      refine e_getr hV dX11_image_38 rfl lx_X rfl ?_
      refine e_iload_n 1 dX11_image_41 rfl rfl ?_
      refine e_aload_n 0 dX11_image_42 rfl rfl ?_
      refine e_getr hV dX11_image_43 rfl lx_X rfl ?_
      refine e_iload_n 1 dX11_image_46 rfl rfl ?_
      refine e_iald hV dX11_image_47 lx_X_may hf (fun v11 hf => ?_)
      refine e_iast hV dX11_image_48 lx_X_imageMay hf (fun s12 hf => ?_)
      refine e_iinc 1 dX11_image_49 rfl rfl hf (fun v13 hf => ?_)
      refine e_goto 31 dX11_image_52 (by decide) ?_
      refine e_pick [1, 0] rfl ?_
      exact ih v13 s12 hf
set_option maxRecDepth 20000 in
theorem tX11_image {ρ : mRo} {d : Nat} {P : mPo} {V : mS → List mE} (hV : mView LX V)  {s : mS} {res : (Int32 × mS)} (hf : fX11_image s = some res) (hP : P (some (.int res.1)) (V res.2)) : mC ρ (d + 1) 209 [.ref qX] (V s) P := by
  refine ⟨_, rfl, Nat.le_of_ble_eq_true rfl, by decide, ?_⟩
  show mG ρ (mC ρ d) 11 2 cX11_image (some .int) P 0 [(0, .ref qX)] [] (V s)
  unfold fX11_image at hf
  refine e_aload_n 0 dX11_image_0 rfl rfl ?_
  refine e_iconst (w := 1) dX11_image_1 (by decide) ?_
  refine e_puti hV dX11_image_2 rfl rfl rfl (Or.inr ⟨rfl, Or.inr rfl⟩) lx_X rfl hf (fun s1 hf => ?_)
  refine e_aload_n 0 dX11_image_5 rfl rfl ?_
  refine e_aload_n 0 dX11_image_6 rfl rfl ?_
  refine e_geti hV dX11_image_7 rfl lx_X rfl ?_
  refine e_puti hV dX11_image_10 rfl rfl rfl (Or.inl rfl) lx_X rfl hf (fun s2 hf => ?_)
  refine e_aload_n 0 dX11_image_13 rfl rfl ?_
  refine e_aload_n 0 dX11_image_14 rfl rfl ?_
  refine e_geti hV dX11_image_15 rfl lx_X rfl ?_
  refine e_puti hV dX11_image_18 rfl rfl rfl (Or.inl rfl) lx_X rfl hf (fun s3 hf => ?_)
  refine e_aload_n 0 dX11_image_21 rfl rfl ?_
  refine e_aload_n 0 dX11_image_22 rfl rfl ?_
  refine e_geti hV dX11_image_23 rfl lx_X rfl ?_
  refine e_puti hV dX11_image_26 rfl rfl rfl (Or.inl rfl) lx_X rfl hf (fun s4 hf => ?_)
  refine e_iconst (w := 0) dX11_image_29 (by decide) ?_
  refine e_istore_n dX11_image_30 rfl (by decide) hf (fun v5 hf => ?_)
  refine e_pick [1, 0] rfl ?_
  exact wX11_image_b31 hV hP mFu v5 s4 hf

theorem dX11_back_0 : decode cX11_back 0 = .ok (.aload_n 0, 1) := by decide +kernel
theorem dX11_back_1 : decode cX11_back 1 = .ok (.getfield 269, 3) := by decide +kernel
theorem dX11_back_4 : decode cX11_back 4 = .ok (.ifCond .ne 6, 3) := by decide +kernel
theorem dX11_back_7 : decode cX11_back 7 = .ok (.bipush (-5), 2) := by decide +kernel
theorem dX11_back_9 : decode cX11_back 9 = .ok (.ireturn, 1) := by decide +kernel
theorem dX11_back_10 : decode cX11_back 10 = .ok (.iconst 0, 1) := by decide +kernel
theorem dX11_back_11 : decode cX11_back 11 = .ok (.istore_n 1, 1) := by decide +kernel
theorem dX11_back_12 : decode cX11_back 12 = .ok (.iload_n 1, 1) := by decide +kernel
theorem dX11_back_13 : decode cX11_back 13 = .ok (.iconst 3, 1) := by decide +kernel
theorem dX11_back_14 : decode cX11_back 14 = .ok (.aload_n 0, 1) := by decide +kernel
theorem dX11_back_15 : decode cX11_back 15 = .ok (.getfield 273, 3) := by decide +kernel
theorem dX11_back_18 : decode cX11_back 18 = .ok (.imul, 1) := by decide +kernel
theorem dX11_back_19 : decode cX11_back 19 = .ok (.if_icmp .ge 21, 3) := by decide +kernel
theorem dX11_back_22 : decode cX11_back 22 = .ok (.aload_n 0, 1) := by decide +kernel
theorem dX11_back_23 : decode cX11_back 23 = .ok (.getfield 9, 3) := by decide +kernel
theorem dX11_back_26 : decode cX11_back 26 = .ok (.iload_n 1, 1) := by decide +kernel
theorem dX11_back_27 : decode cX11_back 27 = .ok (.aload_n 0, 1) := by decide +kernel
theorem dX11_back_28 : decode cX11_back 28 = .ok (.getfield 56, 3) := by decide +kernel
theorem dX11_back_31 : decode cX11_back 31 = .ok (.iload_n 1, 1) := by decide +kernel
theorem dX11_back_32 : decode cX11_back 32 = .ok (.iaload, 1) := by decide +kernel
theorem dX11_back_33 : decode cX11_back 33 = .ok (.iastore, 1) := by decide +kernel
theorem dX11_back_34 : decode cX11_back 34 = .ok (.iinc 1 1, 3) := by decide +kernel
theorem dX11_back_37 : decode cX11_back 37 = .ok (.goto (-25), 3) := by decide +kernel
theorem dX11_back_40 : decode cX11_back 40 = .ok (.iconst 0, 1) := by decide +kernel
theorem dX11_back_41 : decode cX11_back 41 = .ok (.istore_n 1, 1) := by decide +kernel
theorem dX11_back_42 : decode cX11_back 42 = .ok (.iload_n 1, 1) := by decide +kernel
theorem dX11_back_43 : decode cX11_back 43 = .ok (.aload_n 0, 1) := by decide +kernel
theorem dX11_back_44 : decode cX11_back 44 = .ok (.getfield 273, 3) := by decide +kernel
theorem dX11_back_47 : decode cX11_back 47 = .ok (.if_icmp .ge 27, 3) := by decide +kernel
theorem dX11_back_50 : decode cX11_back 50 = .ok (.aload_n 0, 1) := by decide +kernel
theorem dX11_back_51 : decode cX11_back 51 = .ok (.getfield 9, 3) := by decide +kernel
theorem dX11_back_54 : decode cX11_back 54 = .ok (.bipush 24, 2) := by decide +kernel
theorem dX11_back_56 : decode cX11_back 56 = .ok (.iload_n 1, 1) := by decide +kernel
theorem dX11_back_57 : decode cX11_back 57 = .ok (.iadd, 1) := by decide +kernel
theorem dX11_back_58 : decode cX11_back 58 = .ok (.aload_n 0, 1) := by decide +kernel
theorem dX11_back_59 : decode cX11_back 59 = .ok (.getfield 56, 3) := by decide +kernel
theorem dX11_back_62 : decode cX11_back 62 = .ok (.bipush 24, 2) := by decide +kernel
theorem dX11_back_64 : decode cX11_back 64 = .ok (.iload_n 1, 1) := by decide +kernel
theorem dX11_back_65 : decode cX11_back 65 = .ok (.iadd, 1) := by decide +kernel
theorem dX11_back_66 : decode cX11_back 66 = .ok (.iaload, 1) := by decide +kernel
theorem dX11_back_67 : decode cX11_back 67 = .ok (.iastore, 1) := by decide +kernel
theorem dX11_back_68 : decode cX11_back 68 = .ok (.iinc 1 1, 3) := by decide +kernel
theorem dX11_back_71 : decode cX11_back 71 = .ok (.goto (-29), 3) := by decide +kernel
theorem dX11_back_74 : decode cX11_back 74 = .ok (.iconst 0, 1) := by decide +kernel
theorem dX11_back_75 : decode cX11_back 75 = .ok (.istore_n 1, 1) := by decide +kernel
theorem dX11_back_76 : decode cX11_back 76 = .ok (.iload_n 1, 1) := by decide +kernel
theorem dX11_back_77 : decode cX11_back 77 = .ok (.iconst 3, 1) := by decide +kernel
theorem dX11_back_78 : decode cX11_back 78 = .ok (.aload_n 0, 1) := by decide +kernel
theorem dX11_back_79 : decode cX11_back 79 = .ok (.getfield 276, 3) := by decide +kernel
theorem dX11_back_82 : decode cX11_back 82 = .ok (.imul, 1) := by decide +kernel
theorem dX11_back_83 : decode cX11_back 83 = .ok (.if_icmp .ge 27, 3) := by decide +kernel
theorem dX11_back_86 : decode cX11_back 86 = .ok (.aload_n 0, 1) := by decide +kernel
theorem dX11_back_87 : decode cX11_back 87 = .ok (.getfield 9, 3) := by decide +kernel
theorem dX11_back_90 : decode cX11_back 90 = .ok (.bipush 32, 2) := by decide +kernel
theorem dX11_back_92 : decode cX11_back 92 = .ok (.iload_n 1, 1) := by decide +kernel
theorem dX11_back_93 : decode cX11_back 93 = .ok (.iadd, 1) := by decide +kernel
theorem dX11_back_94 : decode cX11_back 94 = .ok (.aload_n 0, 1) := by decide +kernel
theorem dX11_back_95 : decode cX11_back 95 = .ok (.getfield 56, 3) := by decide +kernel
theorem dX11_back_98 : decode cX11_back 98 = .ok (.bipush 32, 2) := by decide +kernel
theorem dX11_back_100 : decode cX11_back 100 = .ok (.iload_n 1, 1) := by decide +kernel
theorem dX11_back_101 : decode cX11_back 101 = .ok (.iadd, 1) := by decide +kernel
theorem dX11_back_102 : decode cX11_back 102 = .ok (.iaload, 1) := by decide +kernel
theorem dX11_back_103 : decode cX11_back 103 = .ok (.iastore, 1) := by decide +kernel
theorem dX11_back_104 : decode cX11_back 104 = .ok (.iinc 1 1, 3) := by decide +kernel
theorem dX11_back_107 : decode cX11_back 107 = .ok (.goto (-31), 3) := by decide +kernel
theorem dX11_back_110 : decode cX11_back 110 = .ok (.aload_n 0, 1) := by decide +kernel
theorem dX11_back_111 : decode cX11_back 111 = .ok (.aload_n 0, 1) := by decide +kernel
theorem dX11_back_112 : decode cX11_back 112 = .ok (.getfield 279, 3) := by decide +kernel
theorem dX11_back_115 : decode cX11_back 115 = .ok (.putfield 49, 3) := by decide +kernel
theorem dX11_back_118 : decode cX11_back 118 = .ok (.iconst 0, 1) := by decide +kernel
theorem dX11_back_119 : decode cX11_back 119 = .ok (.istore_n 1, 1) := by decide +kernel
theorem dX11_back_120 : decode cX11_back 120 = .ok (.iload_n 1, 1) := by decide +kernel
theorem dX11_back_121 : decode cX11_back 121 = .ok (.iconst 4, 1) := by decide +kernel
theorem dX11_back_122 : decode cX11_back 122 = .ok (.if_icmp .ge 21, 3) := by decide +kernel
theorem dX11_back_125 : decode cX11_back 125 = .ok (.aload_n 0, 1) := by decide +kernel
theorem dX11_back_126 : decode cX11_back 126 = .ok (.getfield 53, 3) := by decide +kernel
theorem dX11_back_129 : decode cX11_back 129 = .ok (.iload_n 1, 1) := by decide +kernel
theorem dX11_back_130 : decode cX11_back 130 = .ok (.aload_n 0, 1) := by decide +kernel
theorem dX11_back_131 : decode cX11_back 131 = .ok (.getfield 59, 3) := by decide +kernel
theorem dX11_back_134 : decode cX11_back 134 = .ok (.iload_n 1, 1) := by decide +kernel
theorem dX11_back_135 : decode cX11_back 135 = .ok (.iaload, 1) := by decide +kernel
theorem dX11_back_136 : decode cX11_back 136 = .ok (.iastore, 1) := by decide +kernel
theorem dX11_back_137 : decode cX11_back 137 = .ok (.iinc 1 1, 3) := by decide +kernel
theorem dX11_back_140 : decode cX11_back 140 = .ok (.goto (-20), 3) := by decide +kernel
theorem dX11_back_143 : decode cX11_back 143 = .ok (.aload_n 0, 1) := by decide +kernel
theorem dX11_back_144 : decode cX11_back 144 = .ok (.getfield 53, 3) := by decide +kernel
theorem dX11_back_147 : decode cX11_back 147 = .ok (.iconst 0, 1) := by decide +kernel
theorem dX11_back_148 : decode cX11_back 148 = .ok (.iaload, 1) := by decide +kernel
theorem dX11_back_149 : decode cX11_back 149 = .ok (.ireturn, 1) := by decide +kernel
def fX11_back_b120 : Nat → Int32 → mS → Option (Int32 × mS)
  | 0, _, _ => none
  | k + 1, y1, s =>
    if 4 ≤ y1 then
      ldA s aX_ledNow 4 0 fun v6 =>
      some (v6, s)
    else
      ldA s aX_imageLed 4 y1 fun v7 =>
      stA s aX_ledNow 4 y1 v7 fun s8 =>
      bnd (y1 + 1) fun v9 =>
      fX11_back_b120 k v9 s8

def fX11_back_b76 : Nat → Int32 → mS → Option (Int32 × mS)
  | 0, _, _ => none
  | k + 1, y1, s =>
    if (3 * (gI s iX_imageWriters)) ≤ y1 then
      bnd (pI s iX_latest (gI s iX_imageLatest)) fun s4 =>
      bnd 0 fun v5 =>
      fX11_back_b120 mFu v5 s4
    else
      ldA s aX_imageMay 56 (32 + y1) fun v10 =>
      stA s aX_may 65 (32 + y1) v10 fun s11 =>
      bnd (y1 + 1) fun v12 =>
      fX11_back_b76 k v12 s11

def fX11_back_b42 : Nat → Int32 → mS → Option (Int32 × mS)
  | 0, _, _ => none
  | k + 1, y1, s =>
    if (gI s iX_imageMachines) ≤ y1 then
      bnd 0 fun v3 =>
      fX11_back_b76 mFu v3 s
    else
      ldA s aX_imageMay 56 (24 + y1) fun v13 =>
      stA s aX_may 65 (24 + y1) v13 fun s14 =>
      bnd (y1 + 1) fun v15 =>
      fX11_back_b42 k v15 s14

def fX11_back_b12 : Nat → Int32 → mS → Option (Int32 × mS)
  | 0, _, _ => none
  | k + 1, y1, s =>
    if (3 * (gI s iX_imageMachines)) ≤ y1 then
      bnd 0 fun v2 =>
      fX11_back_b42 mFu v2 s
    else
      ldA s aX_imageMay 56 y1 fun v16 =>
      stA s aX_may 65 y1 v16 fun s17 =>
      bnd (y1 + 1) fun v18 =>
      fX11_back_b12 k v18 s17

def fX11_back (s : mS) : Option (Int32 × mS) :=
  if (gI s iX_isKept) = 0 then
    some ((-5), s)
  else
    bnd 0 fun v1 =>
    fX11_back_b12 mFu v1 s

set_option maxRecDepth 20000 in
theorem wX11_back_b120 {ρ : mRo} {d : Nat} {P : mPo} {V : mS → List mE} (hV : mView LX V)  {res : (Int32 × mS)} (hP : P (some (.int res.1)) (V res.2)) : ∀ (k : Nat) (y1 : Int32) (s : mS), fX11_back_b120 k y1 s = some res → mG ρ (mC ρ d) 11 2 cX11_back (some .int) P 120 [(0, .ref qX), (1, .int y1)] [] (V s) := by
  intro k
  induction k with
  | zero => intro y1 s hf; rw [fX11_back_b120] at hf; cases hf
  | succ k ih =>
    intro y1 s hf
    rw [fX11_back_b120] at hf
    refine e_iload_n 1 dX11_back_120 rfl rfl ?_
    refine e_iconst (w := 4) dX11_back_121 (by decide) ?_
    refine e_icmp_ge 143 dX11_back_122 (by decide) hf (fun hf => ?_) (fun hf => ?_)
    · refine e_aload_n 0 dX11_back_143 rfl rfl ?_
      refine e_getr hV dX11_back_144 rfl lx_X rfl ?_
      refine e_iconst (w := 0) dX11_back_147 (by decide) ?_
      refine e_iald hV dX11_back_148 lx_X_ledNow hf (fun v6 hf => ?_)
      cases hf
      exact e_iret dX11_back_149 trivial hP
    · refine e_aload_n 0 dX11_back_125 rfl rfl ?_
      refine e_getr hV dX11_back_126 rfl lx_X rfl ?_
      refine e_iload_n 1 dX11_back_129 rfl rfl ?_
      refine e_aload_n 0 dX11_back_130 rfl rfl ?_
      refine e_getr hV dX11_back_131 rfl lx_X rfl ?_
      refine e_iload_n 1 dX11_back_134 rfl rfl ?_
      refine e_iald hV dX11_back_135 lx_X_imageLed hf (fun v7 hf => ?_)
      refine e_iast hV dX11_back_136 lx_X_ledNow hf (fun s8 hf => ?_)
      refine e_iinc 1 dX11_back_137 rfl rfl hf (fun v9 hf => ?_)
      refine e_goto 120 dX11_back_140 (by decide) ?_
      refine e_pick [1, 0] rfl ?_
      exact ih v9 s8 hf
set_option maxRecDepth 20000 in
theorem wX11_back_b76 {ρ : mRo} {d : Nat} {P : mPo} {V : mS → List mE} (hV : mView LX V)  {res : (Int32 × mS)} (hP : P (some (.int res.1)) (V res.2)) : ∀ (k : Nat) (y1 : Int32) (s : mS), fX11_back_b76 k y1 s = some res → mG ρ (mC ρ d) 11 2 cX11_back (some .int) P 76 [(0, .ref qX), (1, .int y1)] [] (V s) := by
  intro k
  induction k with
  | zero => intro y1 s hf; rw [fX11_back_b76] at hf; cases hf
  | succ k ih =>
    intro y1 s hf
    rw [fX11_back_b76] at hf
    refine e_iload_n 1 dX11_back_76 rfl rfl ?_
    refine e_iconst (w := 3) dX11_back_77 (by decide) ?_
    refine e_aload_n 0 dX11_back_78 rfl rfl ?_
    refine e_geti hV dX11_back_79 rfl lx_X rfl ?_
    refine e_imul dX11_back_82 ?_
    refine e_icmp_ge 110 dX11_back_83 (by decide) hf (fun hf => ?_) (fun hf => ?_)
    · refine e_aload_n 0 dX11_back_110 rfl rfl ?_
      refine e_aload_n 0 dX11_back_111 rfl rfl ?_
      refine e_geti hV dX11_back_112 rfl lx_X rfl ?_
      refine e_puti hV dX11_back_115 rfl rfl rfl (Or.inl rfl) lx_X rfl hf (fun s4 hf => ?_)
      refine e_iconst (w := 0) dX11_back_118 (by decide) ?_
      refine e_istore_n dX11_back_119 rfl (by decide) hf (fun v5 hf => ?_)
      refine e_pick [1, 0] rfl ?_
      exact wX11_back_b120 hV hP mFu v5 s4 hf
    · refine e_aload_n 0 dX11_back_86 rfl rfl ?_
      refine e_getr hV dX11_back_87 rfl lx_X rfl ?_
      refine e_bipush (w := 32) dX11_back_90 (by decide) ?_
      refine e_iload_n 1 dX11_back_92 rfl rfl ?_
      refine e_iadd dX11_back_93 ?_
      refine e_aload_n 0 dX11_back_94 rfl rfl ?_
      refine e_getr hV dX11_back_95 rfl lx_X rfl ?_
      refine e_bipush (w := 32) dX11_back_98 (by decide) ?_
      refine e_iload_n 1 dX11_back_100 rfl rfl ?_
      refine e_iadd dX11_back_101 ?_
      refine e_iald hV dX11_back_102 lx_X_imageMay hf (fun v10 hf => ?_)
      refine e_iast hV dX11_back_103 lx_X_may hf (fun s11 hf => ?_)
      refine e_iinc 1 dX11_back_104 rfl rfl hf (fun v12 hf => ?_)
      refine e_goto 76 dX11_back_107 (by decide) ?_
      refine e_pick [1, 0] rfl ?_
      exact ih v12 s11 hf
set_option maxRecDepth 20000 in
theorem wX11_back_b42 {ρ : mRo} {d : Nat} {P : mPo} {V : mS → List mE} (hV : mView LX V)  {res : (Int32 × mS)} (hP : P (some (.int res.1)) (V res.2)) : ∀ (k : Nat) (y1 : Int32) (s : mS), fX11_back_b42 k y1 s = some res → mG ρ (mC ρ d) 11 2 cX11_back (some .int) P 42 [(0, .ref qX), (1, .int y1)] [] (V s) := by
  intro k
  induction k with
  | zero => intro y1 s hf; rw [fX11_back_b42] at hf; cases hf
  | succ k ih =>
    intro y1 s hf
    rw [fX11_back_b42] at hf
    refine e_iload_n 1 dX11_back_42 rfl rfl ?_
    refine e_aload_n 0 dX11_back_43 rfl rfl ?_
    refine e_geti hV dX11_back_44 rfl lx_X rfl ?_
    refine e_icmp_ge 74 dX11_back_47 (by decide) hf (fun hf => ?_) (fun hf => ?_)
    · refine e_iconst (w := 0) dX11_back_74 (by decide) ?_
      refine e_istore_n dX11_back_75 rfl (by decide) hf (fun v3 hf => ?_)
      refine e_pick [1, 0] rfl ?_
      exact wX11_back_b76 hV hP mFu v3 s hf
    · refine e_aload_n 0 dX11_back_50 rfl rfl ?_
      refine e_getr hV dX11_back_51 rfl lx_X rfl ?_
      refine e_bipush (w := 24) dX11_back_54 (by decide) ?_
      refine e_iload_n 1 dX11_back_56 rfl rfl ?_
      refine e_iadd dX11_back_57 ?_
      refine e_aload_n 0 dX11_back_58 rfl rfl ?_
      refine e_getr hV dX11_back_59 rfl lx_X rfl ?_
      refine e_bipush (w := 24) dX11_back_62 (by decide) ?_
      refine e_iload_n 1 dX11_back_64 rfl rfl ?_
      refine e_iadd dX11_back_65 ?_
      refine e_iald hV dX11_back_66 lx_X_imageMay hf (fun v13 hf => ?_)
      refine e_iast hV dX11_back_67 lx_X_may hf (fun s14 hf => ?_)
      refine e_iinc 1 dX11_back_68 rfl rfl hf (fun v15 hf => ?_)
      refine e_goto 42 dX11_back_71 (by decide) ?_
      refine e_pick [1, 0] rfl ?_
      exact ih v15 s14 hf
set_option maxRecDepth 20000 in
theorem wX11_back_b12 {ρ : mRo} {d : Nat} {P : mPo} {V : mS → List mE} (hV : mView LX V)  {res : (Int32 × mS)} (hP : P (some (.int res.1)) (V res.2)) : ∀ (k : Nat) (y1 : Int32) (s : mS), fX11_back_b12 k y1 s = some res → mG ρ (mC ρ d) 11 2 cX11_back (some .int) P 12 [(0, .ref qX), (1, .int y1)] [] (V s) := by
  intro k
  induction k with
  | zero => intro y1 s hf; rw [fX11_back_b12] at hf; cases hf
  | succ k ih =>
    intro y1 s hf
    rw [fX11_back_b12] at hf
    refine e_iload_n 1 dX11_back_12 rfl rfl ?_
    refine e_iconst (w := 3) dX11_back_13 (by decide) ?_
    refine e_aload_n 0 dX11_back_14 rfl rfl ?_
    refine e_geti hV dX11_back_15 rfl lx_X rfl ?_
    refine e_imul dX11_back_18 ?_
    refine e_icmp_ge 40 dX11_back_19 (by decide) hf (fun hf => ?_) (fun hf => ?_)
    · refine e_iconst (w := 0) dX11_back_40 (by decide) ?_
      refine e_istore_n dX11_back_41 rfl (by decide) hf (fun v2 hf => ?_)
      refine e_pick [1, 0] rfl ?_
      exact wX11_back_b42 hV hP mFu v2 s hf
    · refine e_aload_n 0 dX11_back_22 rfl rfl ?_
      refine e_getr hV dX11_back_23 rfl lx_X rfl ?_
      refine e_iload_n 1 dX11_back_26 rfl rfl ?_
      refine e_aload_n 0 dX11_back_27 rfl rfl ?_
      refine e_getr hV dX11_back_28 rfl lx_X rfl ?_
      refine e_iload_n 1 dX11_back_31 rfl rfl ?_
      refine e_iald hV dX11_back_32 lx_X_imageMay hf (fun v16 hf => ?_)
      refine e_iast hV dX11_back_33 lx_X_may hf (fun s17 hf => ?_)
      refine e_iinc 1 dX11_back_34 rfl rfl hf (fun v18 hf => ?_)
      refine e_goto 12 dX11_back_37 (by decide) ?_
      refine e_pick [1, 0] rfl ?_
      exact ih v18 s17 hf
set_option maxRecDepth 20000 in
theorem tX11_back {ρ : mRo} {d : Nat} {P : mPo} {V : mS → List mE} (hV : mView LX V)  {s : mS} {res : (Int32 × mS)} (hf : fX11_back s = some res) (hP : P (some (.int res.1)) (V res.2)) : mC ρ (d + 1) 210 [.ref qX] (V s) P := by
  refine ⟨_, rfl, Nat.le_of_ble_eq_true rfl, by decide, ?_⟩
  show mG ρ (mC ρ d) 11 2 cX11_back (some .int) P 0 [(0, .ref qX)] [] (V s)
  unfold fX11_back at hf
  refine e_aload_n 0 dX11_back_0 rfl rfl ?_
  refine e_geti hV dX11_back_1 rfl lx_X rfl ?_
  refine e_if_ne 10 dX11_back_4 (by decide) hf (fun hf => ?_) (fun hf => ?_)
  · refine e_iconst (w := 0) dX11_back_10 (by decide) ?_
    refine e_istore_n dX11_back_11 rfl (by decide) hf (fun v1 hf => ?_)
    refine e_pick [1, 0] rfl ?_
    exact wX11_back_b12 hV hP mFu v1 s hf
  · refine e_bipush (w := (-5)) dX11_back_7 (by decide) ?_
    cases hf
    exact e_iret dX11_back_9 trivial hP

theorem dX11_isBody_0 : decode cX11_isBody 0 = .ok (.iload_n 1, 1) := by decide +kernel
theorem dX11_isBody_1 : decode cX11_isBody 1 = .ok (.i2l, 1) := by decide +kernel
theorem dX11_isBody_2 : decode cX11_isBody 2 = .ok (.lconst 0, 1) := by decide +kernel
theorem dX11_isBody_3 : decode cX11_isBody 3 = .ok (.aload_n 0, 1) := by decide +kernel
theorem dX11_isBody_4 : decode cX11_isBody 4 = .ok (.getfield 282, 3) := by decide +kernel
theorem dX11_isBody_7 : decode cX11_isBody 7 = .ok (.iconst 1, 1) := by decide +kernel
theorem dX11_isBody_8 : decode cX11_isBody 8 = .ok (.isub, 1) := by decide +kernel
theorem dX11_isBody_9 : decode cX11_isBody 9 = .ok (.i2l, 1) := by decide +kernel
theorem dX11_isBody_10 : decode cX11_isBody 10 = .ok (.invokestatic 93, 3) := by decide +kernel
theorem dX11_isBody_13 : decode cX11_isBody 13 = .ok (.ireturn, 1) := by decide +kernel
def fX11_isBody (x1 : Int32) (s : mS) : Option Int32 :=
  bO (fX11_within (Int32.toInt64 x1) 0 (Int32.toInt64 ((gI s iX_bodies) - 1)) s) fun r1 =>
  rB r1 (some r1)

set_option maxRecDepth 20000 in
theorem tX11_isBody {ρ : mRo} {d : Nat} {P : mPo} {V : mS → List mE} (hV : mView LX V)  {x1 : Int32} {s : mS} {res : Int32} (hf : fX11_isBody x1 s = some res) (hP : P (some (.int res)) (V s)) : mC ρ (d + 2) 211 [.ref qX, .int x1] (V s) P := by
  refine ⟨_, rfl, Nat.le_of_ble_eq_true rfl, by decide, ?_⟩
  show mG ρ (mC ρ (d + 1)) 11 2 cX11_isBody (some .boolean) P 0 [(0, .ref qX), (1, .int x1)] [] (V s)
  unfold fX11_isBody at hf
  refine e_iload_n 1 dX11_isBody_0 rfl rfl ?_
  refine e_i2l dX11_isBody_1 ?_
  refine e_lconst (w := 0) dX11_isBody_2 (by decide) ?_
  refine e_aload_n 0 dX11_isBody_3 rfl rfl ?_
  refine e_geti hV dX11_isBody_4 rfl lx_X rfl ?_
  refine e_iconst (w := 1) dX11_isBody_7 (by decide) ?_
  refine e_isub dX11_isBody_8 ?_
  refine e_i2l dX11_isBody_9 ?_
  obtain ⟨r1, hg, hf⟩ := bO_some hf
  refine e_callS (as := [.long (Int32.toInt64 x1), .long 0, .long (Int32.toInt64 ((gI s iX_bodies) - 1))]) (v := (some (.int r1))) (s' := s) dX11_isBody_10 rfl rfl rfl rfl rfl (Nat.le_of_ble_eq_true rfl) (fun Q hQ => tX11_within (d := d) hV  hg hQ) ?_
  obtain ⟨hb0, hf⟩ := rB_some hf
  cases hf
  exact e_iret dX11_isBody_13 hb0 hP

theorem dX11_kindOf_0 : decode cX11_kindOf 0 = .ok (.aload_n 0, 1) := by decide +kernel
theorem dX11_kindOf_1 : decode cX11_kindOf 1 = .ok (.getfield 62, 3) := by decide +kernel
theorem dX11_kindOf_4 : decode cX11_kindOf 4 = .ok (.iload_n 1, 1) := by decide +kernel
theorem dX11_kindOf_5 : decode cX11_kindOf 5 = .ok (.iaload, 1) := by decide +kernel
theorem dX11_kindOf_6 : decode cX11_kindOf 6 = .ok (.ireturn, 1) := by decide +kernel
def fX11_kindOf (x1 : Int32) (s : mS) : Option Int32 :=
  ldA s aX_bodyKind 50 x1 fun v1 =>
  some v1

set_option maxRecDepth 20000 in
theorem tX11_kindOf {ρ : mRo} {d : Nat} {P : mPo} {V : mS → List mE} (hV : mView LX V)  {x1 : Int32} {s : mS} {res : Int32} (hf : fX11_kindOf x1 s = some res) (hP : P (some (.int res)) (V s)) : mC ρ (d + 1) 212 [.ref qX, .int x1] (V s) P := by
  refine ⟨_, rfl, Nat.le_of_ble_eq_true rfl, by decide, ?_⟩
  show mG ρ (mC ρ d) 11 2 cX11_kindOf (some .int) P 0 [(0, .ref qX), (1, .int x1)] [] (V s)
  unfold fX11_kindOf at hf
  refine e_aload_n 0 dX11_kindOf_0 rfl rfl ?_
  refine e_getr hV dX11_kindOf_1 rfl lx_X rfl ?_
  refine e_iload_n 1 dX11_kindOf_4 rfl rfl ?_
  refine e_iald hV dX11_kindOf_5 lx_X_bodyKind hf (fun v1 hf => ?_)
  cases hf
  exact e_iret dX11_kindOf_6 trivial hP

theorem dX11_body_0 : decode cX11_body 0 = .ok (.iload_n 1, 1) := by decide +kernel
theorem dX11_body_1 : decode cX11_body 1 = .ok (.i2l, 1) := by decide +kernel
theorem dX11_body_2 : decode cX11_body 2 = .ok (.lconst 0, 1) := by decide +kernel
theorem dX11_body_3 : decode cX11_body 3 = .ok (.ldc2_w 285, 3) := by decide +kernel
theorem dX11_body_6 : decode cX11_body 6 = .ok (.invokestatic 93, 3) := by decide +kernel
theorem dX11_body_9 : decode cX11_body 9 = .ok (.ifCond .ne 5, 3) := by decide +kernel
theorem dX11_body_12 : decode cX11_body 12 = .ok (.iconst (-1), 1) := by decide +kernel
theorem dX11_body_13 : decode cX11_body 13 = .ok (.ireturn, 1) := by decide +kernel
theorem dX11_body_14 : decode cX11_body 14 = .ok (.aload_n 0, 1) := by decide +kernel
theorem dX11_body_15 : decode cX11_body 15 = .ok (.getfield 282, 3) := by decide +kernel
theorem dX11_body_18 : decode cX11_body 18 = .ok (.bipush 50, 2) := by decide +kernel
theorem dX11_body_20 : decode cX11_body 20 = .ok (.if_icmp .ne 6, 3) := by decide +kernel
theorem dX11_body_23 : decode cX11_body 23 = .ok (.bipush (-3), 2) := by decide +kernel
theorem dX11_body_25 : decode cX11_body 25 = .ok (.ireturn, 1) := by decide +kernel
theorem dX11_body_26 : decode cX11_body 26 = .ok (.aload_n 0, 1) := by decide +kernel
theorem dX11_body_27 : decode cX11_body 27 = .ok (.getfield 62, 3) := by decide +kernel
theorem dX11_body_30 : decode cX11_body 30 = .ok (.aload_n 0, 1) := by decide +kernel
theorem dX11_body_31 : decode cX11_body 31 = .ok (.getfield 282, 3) := by decide +kernel
theorem dX11_body_34 : decode cX11_body 34 = .ok (.iload_n 1, 1) := by decide +kernel
theorem dX11_body_35 : decode cX11_body 35 = .ok (.iastore, 1) := by decide +kernel
theorem dX11_body_36 : decode cX11_body 36 = .ok (.aload_n 0, 1) := by decide +kernel
theorem dX11_body_37 : decode cX11_body 37 = .ok (.dup, 1) := by decide +kernel
theorem dX11_body_38 : decode cX11_body 38 = .ok (.getfield 282, 3) := by decide +kernel
theorem dX11_body_41 : decode cX11_body 41 = .ok (.iconst 1, 1) := by decide +kernel
theorem dX11_body_42 : decode cX11_body 42 = .ok (.iadd, 1) := by decide +kernel
theorem dX11_body_43 : decode cX11_body 43 = .ok (.putfield 282, 3) := by decide +kernel
theorem dX11_body_46 : decode cX11_body 46 = .ok (.aload_n 0, 1) := by decide +kernel
theorem dX11_body_47 : decode cX11_body 47 = .ok (.getfield 282, 3) := by decide +kernel
theorem dX11_body_50 : decode cX11_body 50 = .ok (.iconst 1, 1) := by decide +kernel
theorem dX11_body_51 : decode cX11_body 51 = .ok (.isub, 1) := by decide +kernel
theorem dX11_body_52 : decode cX11_body 52 = .ok (.ireturn, 1) := by decide +kernel
def fX11_body (x1 : Int32) (s : mS) : Option (Int32 × mS) :=
  bO (fX11_within (Int32.toInt64 x1) 0 7 s) fun r1 =>
  if r1 = 0 then
    some ((-1), s)
  else
    if (gI s iX_bodies) = 50 then
      some ((-3), s)
    else
      stA s aX_bodyKind 50 (gI s iX_bodies) x1 fun s2 =>
      bnd (pI s2 iX_bodies ((gI s2 iX_bodies) + 1)) fun s3 =>
      some ((gI s3 iX_bodies) - 1, s3)

set_option maxRecDepth 20000 in
theorem tX11_body {ρ : mRo} {d : Nat} {P : mPo} {V : mS → List mE} (hV : mView LX V)  {x1 : Int32} {s : mS} {res : (Int32 × mS)} (hf : fX11_body x1 s = some res) (hP : P (some (.int res.1)) (V res.2)) : mC ρ (d + 2) 213 [.ref qX, .int x1] (V s) P := by
  refine ⟨_, rfl, Nat.le_of_ble_eq_true rfl, by decide, ?_⟩
  show mG ρ (mC ρ (d + 1)) 11 2 cX11_body (some .int) P 0 [(0, .ref qX), (1, .int x1)] [] (V s)
  unfold fX11_body at hf
  refine e_iload_n 1 dX11_body_0 rfl rfl ?_
  refine e_i2l dX11_body_1 ?_
  refine e_lconst (w := 0) dX11_body_2 (by decide) ?_
  refine e_ldc2_w (w := 7) dX11_body_3 rfl ?_
  obtain ⟨r1, hg, hf⟩ := bO_some hf
  refine e_callS (as := [.long (Int32.toInt64 x1), .long 0, .long 7]) (v := (some (.int r1))) (s' := s) dX11_body_6 rfl rfl rfl rfl rfl (Nat.le_of_ble_eq_true rfl) (fun Q hQ => tX11_within (d := d) hV  hg hQ) ?_
  refine e_if_ne 14 dX11_body_9 (by decide) hf (fun hf => ?_) (fun hf => ?_)
  · refine e_aload_n 0 dX11_body_14 rfl rfl ?_
    refine e_geti hV dX11_body_15 rfl lx_X rfl ?_
    refine e_bipush (w := 50) dX11_body_18 (by decide) ?_
    refine e_icmp_ne 26 dX11_body_20 (by decide) hf (fun hf => ?_) (fun hf => ?_)
    · refine e_aload_n 0 dX11_body_26 rfl rfl ?_
      refine e_getr hV dX11_body_27 rfl lx_X rfl ?_
      refine e_aload_n 0 dX11_body_30 rfl rfl ?_
      refine e_geti hV dX11_body_31 rfl lx_X rfl ?_
      refine e_iload_n 1 dX11_body_34 rfl rfl ?_
      refine e_iast hV dX11_body_35 lx_X_bodyKind hf (fun s2 hf => ?_)
      refine e_aload_n 0 dX11_body_36 rfl rfl ?_
      refine e_dup dX11_body_37 rfl ?_
      refine e_geti hV dX11_body_38 rfl lx_X rfl ?_
      refine e_iconst (w := 1) dX11_body_41 (by decide) ?_
      refine e_iadd dX11_body_42 ?_
      refine e_puti hV dX11_body_43 rfl rfl rfl (Or.inl rfl) lx_X rfl hf (fun s3 hf => ?_)
      refine e_aload_n 0 dX11_body_46 rfl rfl ?_
      refine e_geti hV dX11_body_47 rfl lx_X rfl ?_
      refine e_iconst (w := 1) dX11_body_50 (by decide) ?_
      refine e_isub dX11_body_51 ?_
      cases hf
      exact e_iret dX11_body_52 trivial hP
    · refine e_bipush (w := (-3)) dX11_body_23 (by decide) ?_
      cases hf
      exact e_iret dX11_body_25 trivial hP
  · refine e_iconst (w := (-1)) dX11_body_12 (by decide) ?_
    cases hf
    exact e_iret dX11_body_13 trivial hP

theorem dX11_above_0 : decode cX11_above 0 = .ok (.iload_n 0, 1) := by decide +kernel
theorem dX11_above_1 : decode cX11_above 1 = .ok (.iconst 3, 1) := by decide +kernel
theorem dX11_above_2 : decode cX11_above 2 = .ok (.if_icmp .ne 7, 3) := by decide +kernel
theorem dX11_above_5 : decode cX11_above 5 = .ok (.iconst 2, 1) := by decide +kernel
theorem dX11_above_6 : decode cX11_above 6 = .ok (.goto 32, 3) := by decide +kernel
theorem dX11_above_9 : decode cX11_above 9 = .ok (.iload_n 0, 1) := by decide +kernel
theorem dX11_above_10 : decode cX11_above 10 = .ok (.iconst 4, 1) := by decide +kernel
theorem dX11_above_11 : decode cX11_above 11 = .ok (.if_icmp .ne 7, 3) := by decide +kernel
theorem dX11_above_14 : decode cX11_above 14 = .ok (.iconst 1, 1) := by decide +kernel
theorem dX11_above_15 : decode cX11_above 15 = .ok (.goto 23, 3) := by decide +kernel
theorem dX11_above_18 : decode cX11_above 18 = .ok (.iload_n 0, 1) := by decide +kernel
theorem dX11_above_19 : decode cX11_above 19 = .ok (.iconst 5, 1) := by decide +kernel
theorem dX11_above_20 : decode cX11_above 20 = .ok (.if_icmp .ne 7, 3) := by decide +kernel
theorem dX11_above_23 : decode cX11_above 23 = .ok (.iconst 3, 1) := by decide +kernel
theorem dX11_above_24 : decode cX11_above 24 = .ok (.goto 14, 3) := by decide +kernel
theorem dX11_above_27 : decode cX11_above 27 = .ok (.iload_n 0, 1) := by decide +kernel
theorem dX11_above_28 : decode cX11_above 28 = .ok (.bipush 7, 2) := by decide +kernel
theorem dX11_above_30 : decode cX11_above 30 = .ok (.if_icmp .ne 7, 3) := by decide +kernel
theorem dX11_above_33 : decode cX11_above 33 = .ok (.iconst 4, 1) := by decide +kernel
theorem dX11_above_34 : decode cX11_above 34 = .ok (.goto 4, 3) := by decide +kernel
theorem dX11_above_37 : decode cX11_above 37 = .ok (.iconst 0, 1) := by decide +kernel
theorem dX11_above_38 : decode cX11_above 38 = .ok (.ireturn, 1) := by decide +kernel
def fX11_above (x0 : Int32) (s : mS) : Option Int32 :=
  if x0 = 3 then
    some 2
  else
    if x0 = 4 then
      some 1
    else
      if x0 = 5 then
        some 3
      else
        if x0 = 7 then
          some 4
        else
          some 0

set_option maxRecDepth 20000 in
theorem tX11_above {ρ : mRo} {d : Nat} {P : mPo} {V : mS → List mE} (hV : mView LX V)  {x0 : Int32} {s : mS} {res : Int32} (hf : fX11_above x0 s = some res) (hP : P (some (.int res)) (V s)) : mC ρ (d + 1) 214 [.int x0] (V s) P := by
  refine ⟨_, rfl, Nat.le_of_ble_eq_true rfl, by decide, ?_⟩
  show mG ρ (mC ρ d) 11 1 cX11_above (some .int) P 0 [(0, .int x0)] [] (V s)
  unfold fX11_above at hf
  refine e_iload_n 0 dX11_above_0 rfl rfl ?_
  refine e_iconst (w := 3) dX11_above_1 (by decide) ?_
  refine e_icmp_ne 9 dX11_above_2 (by decide) hf (fun hf => ?_) (fun hf => ?_)
  · refine e_iload_n 0 dX11_above_9 rfl rfl ?_
    refine e_iconst (w := 4) dX11_above_10 (by decide) ?_
    refine e_icmp_ne 18 dX11_above_11 (by decide) hf (fun hf => ?_) (fun hf => ?_)
    · refine e_iload_n 0 dX11_above_18 rfl rfl ?_
      refine e_iconst (w := 5) dX11_above_19 (by decide) ?_
      refine e_icmp_ne 27 dX11_above_20 (by decide) hf (fun hf => ?_) (fun hf => ?_)
      · refine e_iload_n 0 dX11_above_27 rfl rfl ?_
        refine e_bipush (w := 7) dX11_above_28 (by decide) ?_
        refine e_icmp_ne 37 dX11_above_30 (by decide) hf (fun hf => ?_) (fun hf => ?_)
        · refine e_iconst (w := 0) dX11_above_37 (by decide) ?_
          cases hf
          exact e_iret dX11_above_38 trivial hP
        · refine e_iconst (w := 4) dX11_above_33 (by decide) ?_
          refine e_goto 38 dX11_above_34 (by decide) ?_
          cases hf
          exact e_iret dX11_above_38 trivial hP
      · refine e_iconst (w := 3) dX11_above_23 (by decide) ?_
        refine e_goto 38 dX11_above_24 (by decide) ?_
        cases hf
        exact e_iret dX11_above_38 trivial hP
    · refine e_iconst (w := 1) dX11_above_14 (by decide) ?_
      refine e_goto 38 dX11_above_15 (by decide) ?_
      cases hf
      exact e_iret dX11_above_38 trivial hP
  · refine e_iconst (w := 2) dX11_above_5 (by decide) ?_
    refine e_goto 38 dX11_above_6 (by decide) ?_
    cases hf
    exact e_iret dX11_above_38 trivial hP

theorem dX11_runs_0 : decode cX11_runs 0 = .ok (.aload_n 0, 1) := by decide +kernel
theorem dX11_runs_1 : decode cX11_runs 1 = .ok (.getfield 287, 3) := by decide +kernel
theorem dX11_runs_4 : decode cX11_runs 4 = .ok (.bipush 24, 2) := by decide +kernel
theorem dX11_runs_6 : decode cX11_runs 6 = .ok (.if_icmp .ge 13, 3) := by decide +kernel
theorem dX11_runs_9 : decode cX11_runs 9 = .ok (.aload_n 0, 1) := by decide +kernel
theorem dX11_runs_10 : decode cX11_runs 10 = .ok (.getfield 65, 3) := by decide +kernel
theorem dX11_runs_13 : decode cX11_runs 13 = .ok (.aload_n 0, 1) := by decide +kernel
theorem dX11_runs_14 : decode cX11_runs 14 = .ok (.getfield 287, 3) := by decide +kernel
theorem dX11_runs_17 : decode cX11_runs 17 = .ok (.iload_n 1, 1) := by decide +kernel
theorem dX11_runs_18 : decode cX11_runs 18 = .ok (.iastore, 1) := by decide +kernel
theorem dX11_runs_19 : decode cX11_runs 19 = .ok (.aload_n 0, 1) := by decide +kernel
theorem dX11_runs_20 : decode cX11_runs 20 = .ok (.dup, 1) := by decide +kernel
theorem dX11_runs_21 : decode cX11_runs 21 = .ok (.getfield 287, 3) := by decide +kernel
theorem dX11_runs_24 : decode cX11_runs 24 = .ok (.iconst 1, 1) := by decide +kernel
theorem dX11_runs_25 : decode cX11_runs 25 = .ok (.iadd, 1) := by decide +kernel
theorem dX11_runs_26 : decode cX11_runs 26 = .ok (.putfield 287, 3) := by decide +kernel
theorem dX11_runs_29 : decode cX11_runs 29 = .ok (.return_, 1) := by decide +kernel
def fX11_runs_b19 (s : mS) : Option mS :=
  bnd (pI s iX_ran ((gI s iX_ran) + 1)) fun s1 =>
  some s1

def fX11_runs (x1 : Int32) (s : mS) : Option mS :=
  if 24 ≤ (gI s iX_ran) then
    fX11_runs_b19 s
  else
    stA s aX_trace 24 (gI s iX_ran) x1 fun s2 =>
    fX11_runs_b19 s2

set_option maxRecDepth 20000 in
theorem wX11_runs_b19 {ρ : mRo} {d : Nat} {P : mPo} {V : mS → List mE} (hV : mView LX V)  {res : mS} (hP : P none (V res)) (s : mS) (hf : fX11_runs_b19 s = some res) : mG ρ (mC ρ d) 11 2 cX11_runs none P 19 [(0, .ref qX)] [] (V s) := by
  unfold fX11_runs_b19 at hf
  refine e_aload_n 0 dX11_runs_19 rfl rfl ?_
  refine e_dup dX11_runs_20 rfl ?_
  refine e_geti hV dX11_runs_21 rfl lx_X rfl ?_
  refine e_iconst (w := 1) dX11_runs_24 (by decide) ?_
  refine e_iadd dX11_runs_25 ?_
  refine e_puti hV dX11_runs_26 rfl rfl rfl (Or.inl rfl) lx_X rfl hf (fun s1 hf => ?_)
  cases hf
  exact e_ret dX11_runs_29 rfl hP
set_option maxRecDepth 20000 in
theorem tX11_runs {ρ : mRo} {d : Nat} {P : mPo} {V : mS → List mE} (hV : mView LX V)  {x1 : Int32} {s : mS} {res : mS} (hf : fX11_runs x1 s = some res) (hP : P none (V res)) : mC ρ (d + 1) 215 [.ref qX, .int x1] (V s) P := by
  refine ⟨_, rfl, Nat.le_of_ble_eq_true rfl, by decide, ?_⟩
  show mG ρ (mC ρ d) 11 2 cX11_runs none P 0 [(0, .ref qX), (1, .int x1)] [] (V s)
  unfold fX11_runs at hf
  refine e_aload_n 0 dX11_runs_0 rfl rfl ?_
  refine e_geti hV dX11_runs_1 rfl lx_X rfl ?_
  refine e_bipush (w := 24) dX11_runs_4 (by decide) ?_
  refine e_icmp_ge 19 dX11_runs_6 (by decide) hf (fun hf => ?_) (fun hf => ?_)
  · refine e_pick [0] rfl ?_
    exact wX11_runs_b19 hV hP s hf
  · refine e_aload_n 0 dX11_runs_9 rfl rfl ?_
    refine e_getr hV dX11_runs_10 rfl lx_X rfl ?_
    refine e_aload_n 0 dX11_runs_13 rfl rfl ?_
    refine e_geti hV dX11_runs_14 rfl lx_X rfl ?_
    refine e_iload_n 1 dX11_runs_17 rfl rfl ?_
    refine e_iast hV dX11_runs_18 lx_X_trace hf (fun s2 hf => ?_)
    refine e_pick [0] rfl ?_
    exact wX11_runs_b19 hV hP s2 hf

theorem dX11_trace_0 : decode cX11_trace 0 = .ok (.iload_n 1, 1) := by decide +kernel
theorem dX11_trace_1 : decode cX11_trace 1 = .ok (.ifCond .lt 26, 3) := by decide +kernel
theorem dX11_trace_4 : decode cX11_trace 4 = .ok (.iload_n 1, 1) := by decide +kernel
theorem dX11_trace_5 : decode cX11_trace 5 = .ok (.aload_n 0, 1) := by decide +kernel
theorem dX11_trace_6 : decode cX11_trace 6 = .ok (.getfield 287, 3) := by decide +kernel
theorem dX11_trace_9 : decode cX11_trace 9 = .ok (.if_icmp .ge 18, 3) := by decide +kernel
theorem dX11_trace_12 : decode cX11_trace 12 = .ok (.iload_n 1, 1) := by decide +kernel
theorem dX11_trace_13 : decode cX11_trace 13 = .ok (.bipush 24, 2) := by decide +kernel
theorem dX11_trace_15 : decode cX11_trace 15 = .ok (.if_icmp .ge 12, 3) := by decide +kernel
theorem dX11_trace_18 : decode cX11_trace 18 = .ok (.aload_n 0, 1) := by decide +kernel
theorem dX11_trace_19 : decode cX11_trace 19 = .ok (.getfield 65, 3) := by decide +kernel
theorem dX11_trace_22 : decode cX11_trace 22 = .ok (.iload_n 1, 1) := by decide +kernel
theorem dX11_trace_23 : decode cX11_trace 23 = .ok (.iaload, 1) := by decide +kernel
theorem dX11_trace_24 : decode cX11_trace 24 = .ok (.goto 4, 3) := by decide +kernel
theorem dX11_trace_27 : decode cX11_trace 27 = .ok (.iconst (-1), 1) := by decide +kernel
theorem dX11_trace_28 : decode cX11_trace 28 = .ok (.ireturn, 1) := by decide +kernel
def fX11_trace (x1 : Int32) (s : mS) : Option Int32 :=
  if x1 < 0 then
    some (-1)
  else
    if (gI s iX_ran) ≤ x1 then
      some (-1)
    else
      if 24 ≤ x1 then
        some (-1)
      else
        ldA s aX_trace 24 x1 fun v1 =>
        some v1

set_option maxRecDepth 20000 in
theorem tX11_trace {ρ : mRo} {d : Nat} {P : mPo} {V : mS → List mE} (hV : mView LX V)  {x1 : Int32} {s : mS} {res : Int32} (hf : fX11_trace x1 s = some res) (hP : P (some (.int res)) (V s)) : mC ρ (d + 1) 221 [.ref qX, .int x1] (V s) P := by
  refine ⟨_, rfl, Nat.le_of_ble_eq_true rfl, by decide, ?_⟩
  show mG ρ (mC ρ d) 11 2 cX11_trace (some .int) P 0 [(0, .ref qX), (1, .int x1)] [] (V s)
  unfold fX11_trace at hf
  refine e_iload_n 1 dX11_trace_0 rfl rfl ?_
  refine e_if_lt 27 dX11_trace_1 (by decide) hf (fun hf => ?_) (fun hf => ?_)
  · refine e_iconst (w := (-1)) dX11_trace_27 (by decide) ?_
    cases hf
    exact e_iret dX11_trace_28 trivial hP
  · refine e_iload_n 1 dX11_trace_4 rfl rfl ?_
    refine e_aload_n 0 dX11_trace_5 rfl rfl ?_
    refine e_geti hV dX11_trace_6 rfl lx_X rfl ?_
    refine e_icmp_ge 27 dX11_trace_9 (by decide) hf (fun hf => ?_) (fun hf => ?_)
    · refine e_iconst (w := (-1)) dX11_trace_27 (by decide) ?_
      cases hf
      exact e_iret dX11_trace_28 trivial hP
    · refine e_iload_n 1 dX11_trace_12 rfl rfl ?_
      refine e_bipush (w := 24) dX11_trace_13 (by decide) ?_
      refine e_icmp_ge 27 dX11_trace_15 (by decide) hf (fun hf => ?_) (fun hf => ?_)
      · refine e_iconst (w := (-1)) dX11_trace_27 (by decide) ?_
        cases hf
        exact e_iret dX11_trace_28 trivial hP
      · refine e_aload_n 0 dX11_trace_18 rfl rfl ?_
        refine e_getr hV dX11_trace_19 rfl lx_X rfl ?_
        refine e_iload_n 1 dX11_trace_22 rfl rfl ?_
        refine e_iald hV dX11_trace_23 lx_X_trace hf (fun v1 hf => ?_)
        refine e_goto 28 dX11_trace_24 (by decide) ?_
        cases hf
        exact e_iret dX11_trace_28 trivial hP

theorem dX11_keep_0 : decode cX11_keep 0 = .ok (.iload_n 1, 1) := by decide +kernel
theorem dX11_keep_1 : decode cX11_keep 1 = .ok (.invokestatic 111, 3) := by decide +kernel
theorem dX11_keep_4 : decode cX11_keep 4 = .ok (.ifCond .eq 16, 3) := by decide +kernel
theorem dX11_keep_7 : decode cX11_keep 7 = .ok (.iload_n 2, 1) := by decide +kernel
theorem dX11_keep_8 : decode cX11_keep 8 = .ok (.iconst (-1), 1) := by decide +kernel
theorem dX11_keep_9 : decode cX11_keep 9 = .ok (.if_icmp .eq 13, 3) := by decide +kernel
theorem dX11_keep_12 : decode cX11_keep 12 = .ok (.aload_n 0, 1) := by decide +kernel
theorem dX11_keep_13 : decode cX11_keep 13 = .ok (.iload_n 2, 1) := by decide +kernel
theorem dX11_keep_14 : decode cX11_keep 14 = .ok (.invokevirtual 312, 3) := by decide +kernel
theorem dX11_keep_17 : decode cX11_keep 17 = .ok (.ifCond .ne 5, 3) := by decide +kernel
theorem dX11_keep_20 : decode cX11_keep 20 = .ok (.iconst (-1), 1) := by decide +kernel
theorem dX11_keep_21 : decode cX11_keep 21 = .ok (.ireturn, 1) := by decide +kernel
theorem dX11_keep_22 : decode cX11_keep 22 = .ok (.aload_n 0, 1) := by decide +kernel
theorem dX11_keep_23 : decode cX11_keep 23 = .ok (.getfield 68, 3) := by decide +kernel
theorem dX11_keep_26 : decode cX11_keep 26 = .ok (.iload_n 1, 1) := by decide +kernel
theorem dX11_keep_27 : decode cX11_keep 27 = .ok (.iload_n 2, 1) := by decide +kernel
theorem dX11_keep_28 : decode cX11_keep 28 = .ok (.iastore, 1) := by decide +kernel
theorem dX11_keep_29 : decode cX11_keep 29 = .ok (.aload_n 0, 1) := by decide +kernel
theorem dX11_keep_30 : decode cX11_keep 30 = .ok (.getfield 71, 3) := by decide +kernel
theorem dX11_keep_33 : decode cX11_keep 33 = .ok (.iload_n 1, 1) := by decide +kernel
theorem dX11_keep_34 : decode cX11_keep 34 = .ok (.iconst 0, 1) := by decide +kernel
theorem dX11_keep_35 : decode cX11_keep 35 = .ok (.iastore, 1) := by decide +kernel
theorem dX11_keep_36 : decode cX11_keep 36 = .ok (.iconst 1, 1) := by decide +kernel
theorem dX11_keep_37 : decode cX11_keep 37 = .ok (.ireturn, 1) := by decide +kernel
def fX11_keep_b22 (y1 : Int32) (y2 : Int32) (s : mS) : Option (Int32 × mS) :=
  stA s aX_shelf 6 y1 y2 fun s2 =>
  stA s2 aX_many 6 y1 0 fun s3 =>
  some (1, s3)

def fX11_keep (x1 : Int32) (x2 : Int32) (s : mS) : Option (Int32 × mS) :=
  bO (fX11_isShelf x1 s) fun r1 =>
  if r1 = 0 then
    some ((-1), s)
  else
    if x2 = (-1) then
      fX11_keep_b22 x1 x2 s
    else
      bO (fX11_isBody x2 s) fun r4 =>
      if r4 = 0 then
        some ((-1), s)
      else
        fX11_keep_b22 x1 x2 s

set_option maxRecDepth 20000 in
theorem wX11_keep_b22 {ρ : mRo} {d : Nat} {P : mPo} {V : mS → List mE} (hV : mView LX V)  {res : (Int32 × mS)} (hP : P (some (.int res.1)) (V res.2)) (y1 : Int32) (y2 : Int32) (s : mS) (hf : fX11_keep_b22 y1 y2 s = some res) : mG ρ (mC ρ (d + 2)) 11 3 cX11_keep (some .int) P 22 [(0, .ref qX), (1, .int y1), (2, .int y2)] [] (V s) := by
  unfold fX11_keep_b22 at hf
  refine e_aload_n 0 dX11_keep_22 rfl rfl ?_
  refine e_getr hV dX11_keep_23 rfl lx_X rfl ?_
  refine e_iload_n 1 dX11_keep_26 rfl rfl ?_
  refine e_iload_n 2 dX11_keep_27 rfl rfl ?_
  refine e_iast hV dX11_keep_28 lx_X_shelf hf (fun s2 hf => ?_)
  refine e_aload_n 0 dX11_keep_29 rfl rfl ?_
  refine e_getr hV dX11_keep_30 rfl lx_X rfl ?_
  refine e_iload_n 1 dX11_keep_33 rfl rfl ?_
  refine e_iconst (w := 0) dX11_keep_34 (by decide) ?_
  refine e_iast hV dX11_keep_35 lx_X_many hf (fun s3 hf => ?_)
  refine e_iconst (w := 1) dX11_keep_36 (by decide) ?_
  cases hf
  exact e_iret dX11_keep_37 trivial hP
set_option maxRecDepth 20000 in
theorem tX11_keep {ρ : mRo} {d : Nat} {P : mPo} {V : mS → List mE} (hV : mView LX V)  {x1 : Int32} {x2 : Int32} {s : mS} {res : (Int32 × mS)} (hf : fX11_keep x1 x2 s = some res) (hP : P (some (.int res.1)) (V res.2)) : mC ρ (d + 3) 223 [.ref qX, .int x1, .int x2] (V s) P := by
  refine ⟨_, rfl, Nat.le_of_ble_eq_true rfl, by decide, ?_⟩
  show mG ρ (mC ρ (d + 2)) 11 3 cX11_keep (some .int) P 0 [(0, .ref qX), (1, .int x1), (2, .int x2)] [] (V s)
  unfold fX11_keep at hf
  refine e_iload_n 1 dX11_keep_0 rfl rfl ?_
  obtain ⟨r1, hg, hf⟩ := bO_some hf
  refine e_callS (as := [.int x1]) (v := (some (.int r1))) (s' := s) dX11_keep_1 rfl rfl rfl rfl rfl (Nat.le_of_ble_eq_true rfl) (fun Q hQ => tX11_isShelf (d := d) hV  hg hQ) ?_
  refine e_if_eq 20 dX11_keep_4 (by decide) hf (fun hf => ?_) (fun hf => ?_)
  · refine e_iconst (w := (-1)) dX11_keep_20 (by decide) ?_
    cases hf
    exact e_iret dX11_keep_21 trivial hP
  · refine e_iload_n 2 dX11_keep_7 rfl rfl ?_
    refine e_iconst (w := (-1)) dX11_keep_8 (by decide) ?_
    refine e_icmp_eq 22 dX11_keep_9 (by decide) hf (fun hf => ?_) (fun hf => ?_)
    · refine e_pick [0, 1, 2] rfl ?_
      exact wX11_keep_b22 hV hP x1 x2 s hf
    · refine e_aload_n 0 dX11_keep_12 rfl rfl ?_
      refine e_iload_n 2 dX11_keep_13 rfl rfl ?_
      obtain ⟨r4, hg, hf⟩ := bO_some hf
      refine e_callV (as := [.int x2]) (v := (some (.int r4))) (s' := s) hV dX11_keep_14 (Or.inl rfl) rfl rfl rfl rfl (Nat.le_of_ble_eq_true rfl) lx_X rfl rfl (fun Q hQ => tX11_isBody (d := d) hV  hg hQ) ?_
      refine e_if_ne 22 dX11_keep_17 (by decide) hf (fun hf => ?_) (fun hf => ?_)
      · refine e_pick [0, 1, 2] rfl ?_
        exact wX11_keep_b22 hV hP x1 x2 s hf
      · refine e_iconst (w := (-1)) dX11_keep_20 (by decide) ?_
        cases hf
        exact e_iret dX11_keep_21 trivial hP

theorem dX11_row_0 : decode cX11_row 0 = .ok (.iload_n 1, 1) := by decide +kernel
theorem dX11_row_1 : decode cX11_row 1 = .ok (.invokestatic 111, 3) := by decide +kernel
theorem dX11_row_4 : decode cX11_row 4 = .ok (.ifCond .eq 21, 3) := by decide +kernel
theorem dX11_row_7 : decode cX11_row 7 = .ok (.iload_n 2, 1) := by decide +kernel
theorem dX11_row_8 : decode cX11_row 8 = .ok (.i2l, 1) := by decide +kernel
theorem dX11_row_9 : decode cX11_row 9 = .ok (.lconst 0, 1) := by decide +kernel
theorem dX11_row_10 : decode cX11_row 10 = .ok (.ldc2_w 130, 3) := by decide +kernel
theorem dX11_row_13 : decode cX11_row 13 = .ok (.invokestatic 93, 3) := by decide +kernel
theorem dX11_row_16 : decode cX11_row 16 = .ok (.ifCond .eq 9, 3) := by decide +kernel
theorem dX11_row_19 : decode cX11_row 19 = .ok (.iload_n 3, 1) := by decide +kernel
theorem dX11_row_20 : decode cX11_row 20 = .ok (.bipush 60, 2) := by decide +kernel
theorem dX11_row_22 : decode cX11_row 22 = .ok (.if_icmp .le 5, 3) := by decide +kernel
theorem dX11_row_25 : decode cX11_row 25 = .ok (.iconst (-1), 1) := by decide +kernel
theorem dX11_row_26 : decode cX11_row 26 = .ok (.ireturn, 1) := by decide +kernel
theorem dX11_row_27 : decode cX11_row 27 = .ok (.iload_n 3, 1) := by decide +kernel
theorem dX11_row_28 : decode cX11_row 28 = .ok (.ifCond .ge 6, 3) := by decide +kernel
theorem dX11_row_31 : decode cX11_row 31 = .ok (.bipush (-14), 2) := by decide +kernel
theorem dX11_row_33 : decode cX11_row 33 = .ok (.ireturn, 1) := by decide +kernel
theorem dX11_row_34 : decode cX11_row 34 = .ok (.aload_n 0, 1) := by decide +kernel
theorem dX11_row_35 : decode cX11_row 35 = .ok (.getfield 68, 3) := by decide +kernel
theorem dX11_row_38 : decode cX11_row 38 = .ok (.iload_n 1, 1) := by decide +kernel
theorem dX11_row_39 : decode cX11_row 39 = .ok (.bipush 50, 2) := by decide +kernel
theorem dX11_row_41 : decode cX11_row 41 = .ok (.iload_n 2, 1) := by decide +kernel
theorem dX11_row_42 : decode cX11_row 42 = .ok (.iadd, 1) := by decide +kernel
theorem dX11_row_43 : decode cX11_row 43 = .ok (.iastore, 1) := by decide +kernel
theorem dX11_row_44 : decode cX11_row 44 = .ok (.aload_n 0, 1) := by decide +kernel
theorem dX11_row_45 : decode cX11_row 45 = .ok (.getfield 71, 3) := by decide +kernel
theorem dX11_row_48 : decode cX11_row 48 = .ok (.iload_n 1, 1) := by decide +kernel
theorem dX11_row_49 : decode cX11_row 49 = .ok (.iload_n 3, 1) := by decide +kernel
theorem dX11_row_50 : decode cX11_row 50 = .ok (.iastore, 1) := by decide +kernel
theorem dX11_row_51 : decode cX11_row 51 = .ok (.bipush 60, 2) := by decide +kernel
theorem dX11_row_53 : decode cX11_row 53 = .ok (.iload_n 1, 1) := by decide +kernel
theorem dX11_row_54 : decode cX11_row 54 = .ok (.imul, 1) := by decide +kernel
theorem dX11_row_55 : decode cX11_row 55 = .ok (.istore 4, 2) := by decide +kernel
theorem dX11_row_57 : decode cX11_row 57 = .ok (.iload 4, 2) := by decide +kernel
theorem dX11_row_59 : decode cX11_row 59 = .ok (.bipush 60, 2) := by decide +kernel
theorem dX11_row_61 : decode cX11_row 61 = .ok (.iload_n 1, 1) := by decide +kernel
theorem dX11_row_62 : decode cX11_row 62 = .ok (.imul, 1) := by decide +kernel
theorem dX11_row_63 : decode cX11_row 63 = .ok (.bipush 60, 2) := by decide +kernel
theorem dX11_row_65 : decode cX11_row 65 = .ok (.iadd, 1) := by decide +kernel
theorem dX11_row_66 : decode cX11_row 66 = .ok (.if_icmp .ge 17, 3) := by decide +kernel
theorem dX11_row_69 : decode cX11_row 69 = .ok (.aload_n 0, 1) := by decide +kernel
theorem dX11_row_70 : decode cX11_row 70 = .ok (.getfield 74, 3) := by decide +kernel
theorem dX11_row_73 : decode cX11_row 73 = .ok (.iload 4, 2) := by decide +kernel
theorem dX11_row_75 : decode cX11_row 75 = .ok (.lconst 0, 1) := by decide +kernel
theorem dX11_row_76 : decode cX11_row 76 = .ok (.lastore, 1) := by decide +kernel
theorem dX11_row_77 : decode cX11_row 77 = .ok (.iinc 4 1, 3) := by decide +kernel
theorem dX11_row_80 : decode cX11_row 80 = .ok (.goto (-23), 3) := by decide +kernel
theorem dX11_row_83 : decode cX11_row 83 = .ok (.iconst 1, 1) := by decide +kernel
theorem dX11_row_84 : decode cX11_row 84 = .ok (.ireturn, 1) := by decide +kernel
def fX11_row_b57 : Nat → Int32 → Int32 → mS → Option (Int32 × mS)
  | 0, _, _, _ => none
  | k + 1, y1, y4, s =>
    if ((60 * y1) + 60) ≤ y4 then
      some (1, s)
    else
      stL s lX_items 360 y4 0 fun s6 =>
      bnd (y4 + 1) fun v7 =>
      fX11_row_b57 k y1 v7 s6

def fX11_row (x1 : Int32) (x2 : Int32) (x3 : Int32) (s : mS) : Option (Int32 × mS) :=
  bO (fX11_isShelf x1 s) fun r1 =>
  if r1 = 0 then
    some ((-1), s)
  else
    bO (fX11_within (Int32.toInt64 x2) 0 4 s) fun r2 =>
    if r2 = 0 then
      some ((-1), s)
    else
      if x3 ≤ 60 then
        if 0 ≤ x3 then
          stA s aX_shelf 6 x1 (50 + x2) fun s3 =>
          stA s3 aX_many 6 x1 x3 fun s4 =>
          bnd (60 * x1) fun v5 =>
          fX11_row_b57 mFu x1 v5 s4
        else
          some ((-14), s)
      else
        some ((-1), s)

set_option maxRecDepth 20000 in
theorem wX11_row_b57 {ρ : mRo} {d : Nat} {P : mPo} {V : mS → List mE} (hV : mView LX V)  {res : (Int32 × mS)} (hP : P (some (.int res.1)) (V res.2)) : ∀ (k : Nat) (y1 : Int32) (y4 : Int32) (s : mS), fX11_row_b57 k y1 y4 s = some res → mG ρ (mC ρ (d + 2)) 11 5 cX11_row (some .int) P 57 [(0, .ref qX), (1, .int y1), (4, .int y4)] [] (V s) := by
  intro k
  induction k with
  | zero => intro y1 y4 s hf; rw [fX11_row_b57] at hf; cases hf
  | succ k ih =>
    intro y1 y4 s hf
    rw [fX11_row_b57] at hf
    refine e_iload 2 dX11_row_57 rfl ?_
    refine e_bipush (w := 60) dX11_row_59 (by decide) ?_
    refine e_iload_n 1 dX11_row_61 rfl rfl ?_
    refine e_imul dX11_row_62 ?_
    refine e_bipush (w := 60) dX11_row_63 (by decide) ?_
    refine e_iadd dX11_row_65 ?_
    refine e_icmp_ge 83 dX11_row_66 (by decide) hf (fun hf => ?_) (fun hf => ?_)
    · refine e_iconst (w := 1) dX11_row_83 (by decide) ?_
      cases hf
      exact e_iret dX11_row_84 trivial hP
    · refine e_aload_n 0 dX11_row_69 rfl rfl ?_
      refine e_getr hV dX11_row_70 rfl lx_X rfl ?_
      refine e_iload 2 dX11_row_73 rfl ?_
      refine e_lconst (w := 0) dX11_row_75 (by decide) ?_
      refine e_last hV dX11_row_76 lx_X_items hf (fun s6 hf => ?_)
      refine e_iinc 2 dX11_row_77 rfl rfl hf (fun v7 hf => ?_)
      refine e_goto 57 dX11_row_80 (by decide) ?_
      refine e_pick [1, 2, 0] rfl ?_
      exact ih y1 v7 s6 hf
set_option maxRecDepth 20000 in
theorem tX11_row {ρ : mRo} {d : Nat} {P : mPo} {V : mS → List mE} (hV : mView LX V)  {x1 : Int32} {x2 : Int32} {x3 : Int32} {s : mS} {res : (Int32 × mS)} (hf : fX11_row x1 x2 x3 s = some res) (hP : P (some (.int res.1)) (V res.2)) : mC ρ (d + 3) 224 [.ref qX, .int x1, .int x2, .int x3] (V s) P := by
  refine ⟨_, rfl, Nat.le_of_ble_eq_true rfl, by decide, ?_⟩
  show mG ρ (mC ρ (d + 2)) 11 5 cX11_row (some .int) P 0 [(0, .ref qX), (1, .int x1), (2, .int x2), (3, .int x3)] [] (V s)
  unfold fX11_row at hf
  refine e_iload_n 1 dX11_row_0 rfl rfl ?_
  obtain ⟨r1, hg, hf⟩ := bO_some hf
  refine e_callS (as := [.int x1]) (v := (some (.int r1))) (s' := s) dX11_row_1 rfl rfl rfl rfl rfl (Nat.le_of_ble_eq_true rfl) (fun Q hQ => tX11_isShelf (d := d) hV  hg hQ) ?_
  refine e_if_eq 25 dX11_row_4 (by decide) hf (fun hf => ?_) (fun hf => ?_)
  · refine e_iconst (w := (-1)) dX11_row_25 (by decide) ?_
    cases hf
    exact e_iret dX11_row_26 trivial hP
  · refine e_iload_n 2 dX11_row_7 rfl rfl ?_
    refine e_i2l dX11_row_8 ?_
    refine e_lconst (w := 0) dX11_row_9 (by decide) ?_
    refine e_ldc2_w (w := 4) dX11_row_10 rfl ?_
    obtain ⟨r2, hg, hf⟩ := bO_some hf
    refine e_callS (as := [.long (Int32.toInt64 x2), .long 0, .long 4]) (v := (some (.int r2))) (s' := s) dX11_row_13 rfl rfl rfl rfl rfl (Nat.le_of_ble_eq_true rfl) (fun Q hQ => tX11_within (d := (d + 1)) hV  hg hQ) ?_
    refine e_if_eq 25 dX11_row_16 (by decide) hf (fun hf => ?_) (fun hf => ?_)
    · refine e_iconst (w := (-1)) dX11_row_25 (by decide) ?_
      cases hf
      exact e_iret dX11_row_26 trivial hP
    · refine e_iload_n 3 dX11_row_19 rfl rfl ?_
      refine e_bipush (w := 60) dX11_row_20 (by decide) ?_
      refine e_icmp_le 27 dX11_row_22 (by decide) hf (fun hf => ?_) (fun hf => ?_)
      · refine e_iload_n 3 dX11_row_27 rfl rfl ?_
        refine e_if_ge 34 dX11_row_28 (by decide) hf (fun hf => ?_) (fun hf => ?_)
        · refine e_aload_n 0 dX11_row_34 rfl rfl ?_
          refine e_getr hV dX11_row_35 rfl lx_X rfl ?_
          refine e_iload_n 1 dX11_row_38 rfl rfl ?_
          refine e_bipush (w := 50) dX11_row_39 (by decide) ?_
          refine e_iload_n 2 dX11_row_41 rfl rfl ?_
          refine e_iadd dX11_row_42 ?_
          refine e_iast hV dX11_row_43 lx_X_shelf hf (fun s3 hf => ?_)
          refine e_aload_n 0 dX11_row_44 rfl rfl ?_
          refine e_getr hV dX11_row_45 rfl lx_X rfl ?_
          refine e_iload_n 1 dX11_row_48 rfl rfl ?_
          refine e_iload_n 3 dX11_row_49 rfl rfl ?_
          refine e_iast hV dX11_row_50 lx_X_many hf (fun s4 hf => ?_)
          refine e_bipush (w := 60) dX11_row_51 (by decide) ?_
          refine e_iload_n 1 dX11_row_53 rfl rfl ?_
          refine e_imul dX11_row_54 ?_
          refine e_istore dX11_row_55 (by decide) hf (fun v5 hf => ?_)
          refine e_pick [1, 2, 0] rfl ?_
          exact wX11_row_b57 hV hP mFu x1 v5 s4 hf
        · refine e_bipush (w := (-14)) dX11_row_31 (by decide) ?_
          cases hf
          exact e_iret dX11_row_33 trivial hP
      · refine e_iconst (w := (-1)) dX11_row_25 (by decide) ?_
        cases hf
        exact e_iret dX11_row_26 trivial hP

theorem dX11_refusal_0 : decode cX11_refusal 0 = .ok (.iload_n 1, 1) := by decide +kernel
theorem dX11_refusal_1 : decode cX11_refusal 1 = .ok (.invokestatic 111, 3) := by decide +kernel
theorem dX11_refusal_4 : decode cX11_refusal 4 = .ok (.ifCond .ne 5, 3) := by decide +kernel
theorem dX11_refusal_7 : decode cX11_refusal 7 = .ok (.iconst (-1), 1) := by decide +kernel
theorem dX11_refusal_8 : decode cX11_refusal 8 = .ok (.ireturn, 1) := by decide +kernel
theorem dX11_refusal_9 : decode cX11_refusal 9 = .ok (.aload_n 0, 1) := by decide +kernel
theorem dX11_refusal_10 : decode cX11_refusal 10 = .ok (.getfield 68, 3) := by decide +kernel
theorem dX11_refusal_13 : decode cX11_refusal 13 = .ok (.iload_n 1, 1) := by decide +kernel
theorem dX11_refusal_14 : decode cX11_refusal 14 = .ok (.iaload, 1) := by decide +kernel
theorem dX11_refusal_15 : decode cX11_refusal 15 = .ok (.ifCond .ge 6, 3) := by decide +kernel
theorem dX11_refusal_18 : decode cX11_refusal 18 = .ok (.bipush (-11), 2) := by decide +kernel
theorem dX11_refusal_20 : decode cX11_refusal 20 = .ok (.ireturn, 1) := by decide +kernel
theorem dX11_refusal_21 : decode cX11_refusal 21 = .ok (.aload_n 0, 1) := by decide +kernel
theorem dX11_refusal_22 : decode cX11_refusal 22 = .ok (.getfield 68, 3) := by decide +kernel
theorem dX11_refusal_25 : decode cX11_refusal 25 = .ok (.iload_n 1, 1) := by decide +kernel
theorem dX11_refusal_26 : decode cX11_refusal 26 = .ok (.iaload, 1) := by decide +kernel
theorem dX11_refusal_27 : decode cX11_refusal 27 = .ok (.bipush 50, 2) := by decide +kernel
theorem dX11_refusal_29 : decode cX11_refusal 29 = .ok (.if_icmp .ge 6, 3) := by decide +kernel
theorem dX11_refusal_32 : decode cX11_refusal 32 = .ok (.bipush (-12), 2) := by decide +kernel
theorem dX11_refusal_34 : decode cX11_refusal 34 = .ok (.ireturn, 1) := by decide +kernel
theorem dX11_refusal_35 : decode cX11_refusal 35 = .ok (.iload_n 2, 1) := by decide +kernel
theorem dX11_refusal_36 : decode cX11_refusal 36 = .ok (.ifCond .lt 17, 3) := by decide +kernel
theorem dX11_refusal_39 : decode cX11_refusal 39 = .ok (.iload_n 2, 1) := by decide +kernel
theorem dX11_refusal_40 : decode cX11_refusal 40 = .ok (.aload_n 0, 1) := by decide +kernel
theorem dX11_refusal_41 : decode cX11_refusal 41 = .ok (.getfield 71, 3) := by decide +kernel
theorem dX11_refusal_44 : decode cX11_refusal 44 = .ok (.iload_n 1, 1) := by decide +kernel
theorem dX11_refusal_45 : decode cX11_refusal 45 = .ok (.iaload, 1) := by decide +kernel
theorem dX11_refusal_46 : decode cX11_refusal 46 = .ok (.if_icmp .ge 7, 3) := by decide +kernel
theorem dX11_refusal_49 : decode cX11_refusal 49 = .ok (.iconst 0, 1) := by decide +kernel
theorem dX11_refusal_50 : decode cX11_refusal 50 = .ok (.goto 5, 3) := by decide +kernel
theorem dX11_refusal_53 : decode cX11_refusal 53 = .ok (.bipush (-13), 2) := by decide +kernel
theorem dX11_refusal_55 : decode cX11_refusal 55 = .ok (.ireturn, 1) := by decide +kernel
def fX11_refusal (x1 : Int32) (x2 : Int32) (s : mS) : Option Int32 :=
  bO (fX11_isShelf x1 s) fun r1 =>
  if r1 = 0 then
    some (-1)
  else
    ldA s aX_shelf 6 x1 fun v2 =>
    if 0 ≤ v2 then
      ldA s aX_shelf 6 x1 fun v3 =>
      if 50 ≤ v3 then
        if x2 < 0 then
          some (-13)
        else
          ldA s aX_many 6 x1 fun v4 =>
          if v4 ≤ x2 then
            some (-13)
          else
            some 0
      else
        some (-12)
    else
      some (-11)

set_option maxRecDepth 20000 in
theorem tX11_refusal {ρ : mRo} {d : Nat} {P : mPo} {V : mS → List mE} (hV : mView LX V)  {x1 : Int32} {x2 : Int32} {s : mS} {res : Int32} (hf : fX11_refusal x1 x2 s = some res) (hP : P (some (.int res)) (V s)) : mC ρ (d + 3) 225 [.ref qX, .int x1, .int x2] (V s) P := by
  refine ⟨_, rfl, Nat.le_of_ble_eq_true rfl, by decide, ?_⟩
  show mG ρ (mC ρ (d + 2)) 11 3 cX11_refusal (some .int) P 0 [(0, .ref qX), (1, .int x1), (2, .int x2)] [] (V s)
  unfold fX11_refusal at hf
  refine e_iload_n 1 dX11_refusal_0 rfl rfl ?_
  obtain ⟨r1, hg, hf⟩ := bO_some hf
  refine e_callS (as := [.int x1]) (v := (some (.int r1))) (s' := s) dX11_refusal_1 rfl rfl rfl rfl rfl (Nat.le_of_ble_eq_true rfl) (fun Q hQ => tX11_isShelf (d := d) hV  hg hQ) ?_
  refine e_if_ne 9 dX11_refusal_4 (by decide) hf (fun hf => ?_) (fun hf => ?_)
  · refine e_aload_n 0 dX11_refusal_9 rfl rfl ?_
    refine e_getr hV dX11_refusal_10 rfl lx_X rfl ?_
    refine e_iload_n 1 dX11_refusal_13 rfl rfl ?_
    refine e_iald hV dX11_refusal_14 lx_X_shelf hf (fun v2 hf => ?_)
    refine e_if_ge 21 dX11_refusal_15 (by decide) hf (fun hf => ?_) (fun hf => ?_)
    · refine e_aload_n 0 dX11_refusal_21 rfl rfl ?_
      refine e_getr hV dX11_refusal_22 rfl lx_X rfl ?_
      refine e_iload_n 1 dX11_refusal_25 rfl rfl ?_
      refine e_iald hV dX11_refusal_26 lx_X_shelf hf (fun v3 hf => ?_)
      refine e_bipush (w := 50) dX11_refusal_27 (by decide) ?_
      refine e_icmp_ge 35 dX11_refusal_29 (by decide) hf (fun hf => ?_) (fun hf => ?_)
      · refine e_iload_n 2 dX11_refusal_35 rfl rfl ?_
        refine e_if_lt 53 dX11_refusal_36 (by decide) hf (fun hf => ?_) (fun hf => ?_)
        · refine e_bipush (w := (-13)) dX11_refusal_53 (by decide) ?_
          cases hf
          exact e_iret dX11_refusal_55 trivial hP
        · refine e_iload_n 2 dX11_refusal_39 rfl rfl ?_
          refine e_aload_n 0 dX11_refusal_40 rfl rfl ?_
          refine e_getr hV dX11_refusal_41 rfl lx_X rfl ?_
          refine e_iload_n 1 dX11_refusal_44 rfl rfl ?_
          refine e_iald hV dX11_refusal_45 lx_X_many hf (fun v4 hf => ?_)
          refine e_icmp_ge 53 dX11_refusal_46 (by decide) hf (fun hf => ?_) (fun hf => ?_)
          · refine e_bipush (w := (-13)) dX11_refusal_53 (by decide) ?_
            cases hf
            exact e_iret dX11_refusal_55 trivial hP
          · refine e_iconst (w := 0) dX11_refusal_49 (by decide) ?_
            refine e_goto 55 dX11_refusal_50 (by decide) ?_
            cases hf
            exact e_iret dX11_refusal_55 trivial hP
      · refine e_bipush (w := (-12)) dX11_refusal_32 (by decide) ?_
        cases hf
        exact e_iret dX11_refusal_34 trivial hP
    · refine e_bipush (w := (-11)) dX11_refusal_18 (by decide) ?_
      cases hf
      exact e_iret dX11_refusal_20 trivial hP
  · refine e_iconst (w := (-1)) dX11_refusal_7 (by decide) ?_
    cases hf
    exact e_iret dX11_refusal_8 trivial hP

theorem dX11_asSort_0 : decode cX11_asSort 0 = .ok (.iload_n 0, 1) := by decide +kernel
theorem dX11_asSort_1 : decode cX11_asSort 1 = .ok (.ifCond .ne 10, 3) := by decide +kernel
theorem dX11_asSort_4 : decode cX11_asSort 4 = .ok (.lload_n 1, 1) := by decide +kernel
theorem dX11_asSort_5 : decode cX11_asSort 5 = .ok (.l2i, 1) := by decide +kernel
theorem dX11_asSort_6 : decode cX11_asSort 6 = .ok (.i2b, 1) := by decide +kernel
theorem dX11_asSort_7 : decode cX11_asSort 7 = .ok (.i2l, 1) := by decide +kernel
theorem dX11_asSort_8 : decode cX11_asSort 8 = .ok (.goto 46, 3) := by decide +kernel
theorem dX11_asSort_11 : decode cX11_asSort 11 = .ok (.iload_n 0, 1) := by decide +kernel
theorem dX11_asSort_12 : decode cX11_asSort 12 = .ok (.iconst 1, 1) := by decide +kernel
theorem dX11_asSort_13 : decode cX11_asSort 13 = .ok (.if_icmp .ne 10, 3) := by decide +kernel
theorem dX11_asSort_16 : decode cX11_asSort 16 = .ok (.lload_n 1, 1) := by decide +kernel
theorem dX11_asSort_17 : decode cX11_asSort 17 = .ok (.l2i, 1) := by decide +kernel
theorem dX11_asSort_18 : decode cX11_asSort 18 = .ok (.i2s, 1) := by decide +kernel
theorem dX11_asSort_19 : decode cX11_asSort 19 = .ok (.i2l, 1) := by decide +kernel
theorem dX11_asSort_20 : decode cX11_asSort 20 = .ok (.goto 34, 3) := by decide +kernel
theorem dX11_asSort_23 : decode cX11_asSort 23 = .ok (.iload_n 0, 1) := by decide +kernel
theorem dX11_asSort_24 : decode cX11_asSort 24 = .ok (.iconst 2, 1) := by decide +kernel
theorem dX11_asSort_25 : decode cX11_asSort 25 = .ok (.if_icmp .ne 9, 3) := by decide +kernel
theorem dX11_asSort_28 : decode cX11_asSort 28 = .ok (.lload_n 1, 1) := by decide +kernel
theorem dX11_asSort_29 : decode cX11_asSort 29 = .ok (.l2i, 1) := by decide +kernel
theorem dX11_asSort_30 : decode cX11_asSort 30 = .ok (.i2l, 1) := by decide +kernel
theorem dX11_asSort_31 : decode cX11_asSort 31 = .ok (.goto 23, 3) := by decide +kernel
theorem dX11_asSort_34 : decode cX11_asSort 34 = .ok (.iload_n 0, 1) := by decide +kernel
theorem dX11_asSort_35 : decode cX11_asSort 35 = .ok (.iconst 4, 1) := by decide +kernel
theorem dX11_asSort_36 : decode cX11_asSort 36 = .ok (.if_icmp .ne 17, 3) := by decide +kernel
theorem dX11_asSort_39 : decode cX11_asSort 39 = .ok (.lload_n 1, 1) := by decide +kernel
theorem dX11_asSort_40 : decode cX11_asSort 40 = .ok (.lconst 0, 1) := by decide +kernel
theorem dX11_asSort_41 : decode cX11_asSort 41 = .ok (.lcmp, 1) := by decide +kernel
theorem dX11_asSort_42 : decode cX11_asSort 42 = .ok (.ifCond .eq 7, 3) := by decide +kernel
theorem dX11_asSort_45 : decode cX11_asSort 45 = .ok (.lconst 1, 1) := by decide +kernel
theorem dX11_asSort_46 : decode cX11_asSort 46 = .ok (.goto 8, 3) := by decide +kernel
theorem dX11_asSort_49 : decode cX11_asSort 49 = .ok (.lconst 0, 1) := by decide +kernel
theorem dX11_asSort_50 : decode cX11_asSort 50 = .ok (.goto 4, 3) := by decide +kernel
theorem dX11_asSort_53 : decode cX11_asSort 53 = .ok (.lload_n 1, 1) := by decide +kernel
theorem dX11_asSort_54 : decode cX11_asSort 54 = .ok (.lreturn, 1) := by decide +kernel
def fX11_asSort (x0 : Int32) (x1 : Int64) (s : mS) : Option Int64 :=
  if x0 = 0 then
    some (Int32.toInt64 ((Int32.toInt8 (Int64.toInt32 x1)).toInt32))
  else
    if x0 = 1 then
      some (Int32.toInt64 ((Int32.toInt16 (Int64.toInt32 x1)).toInt32))
    else
      if x0 = 2 then
        some (Int32.toInt64 (Int64.toInt32 x1))
      else
        if x0 = 4 then
          if (lg_cmp x1 0) = 0 then
            some 0
          else
            some 1
        else
          some x1

set_option maxRecDepth 20000 in
theorem tX11_asSort {ρ : mRo} {d : Nat} {P : mPo} {V : mS → List mE} (hV : mView LX V)  {x0 : Int32} {x1 : Int64} {s : mS} {res : Int64} (hf : fX11_asSort x0 x1 s = some res) (hP : P (some (.long res)) (V s)) : mC ρ (d + 1) 226 [.int x0, .long x1] (V s) P := by
  refine ⟨_, rfl, Nat.le_of_ble_eq_true rfl, by decide, ?_⟩
  show mG ρ (mC ρ d) 11 3 cX11_asSort (some .long) P 0 [(0, .int x0), (1, .long x1)] [] (V s)
  unfold fX11_asSort at hf
  refine e_iload_n 0 dX11_asSort_0 rfl rfl ?_
  refine e_if_ne 11 dX11_asSort_1 (by decide) hf (fun hf => ?_) (fun hf => ?_)
  · refine e_iload_n 0 dX11_asSort_11 rfl rfl ?_
    refine e_iconst (w := 1) dX11_asSort_12 (by decide) ?_
    refine e_icmp_ne 23 dX11_asSort_13 (by decide) hf (fun hf => ?_) (fun hf => ?_)
    · refine e_iload_n 0 dX11_asSort_23 rfl rfl ?_
      refine e_iconst (w := 2) dX11_asSort_24 (by decide) ?_
      refine e_icmp_ne 34 dX11_asSort_25 (by decide) hf (fun hf => ?_) (fun hf => ?_)
      · refine e_iload_n 0 dX11_asSort_34 rfl rfl ?_
        refine e_iconst (w := 4) dX11_asSort_35 (by decide) ?_
        refine e_icmp_ne 53 dX11_asSort_36 (by decide) hf (fun hf => ?_) (fun hf => ?_)
        · refine e_lload_n 1 dX11_asSort_53 rfl rfl ?_
          cases hf
          exact e_lret dX11_asSort_54 rfl hP
        · refine e_lload_n 1 dX11_asSort_39 rfl rfl ?_
          refine e_lconst (w := 0) dX11_asSort_40 (by decide) ?_
          refine e_lcmp dX11_asSort_41 ?_
          refine e_if_eq 49 dX11_asSort_42 (by decide) hf (fun hf => ?_) (fun hf => ?_)
          · refine e_lconst (w := 0) dX11_asSort_49 (by decide) ?_
            refine e_goto 54 dX11_asSort_50 (by decide) ?_
            cases hf
            exact e_lret dX11_asSort_54 rfl hP
          · refine e_lconst (w := 1) dX11_asSort_45 (by decide) ?_
            refine e_goto 54 dX11_asSort_46 (by decide) ?_
            cases hf
            exact e_lret dX11_asSort_54 rfl hP
      · refine e_lload_n 1 dX11_asSort_28 rfl rfl ?_
        refine e_l2i dX11_asSort_29 ?_
        refine e_i2l dX11_asSort_30 ?_
        refine e_goto 54 dX11_asSort_31 (by decide) ?_
        cases hf
        exact e_lret dX11_asSort_54 rfl hP
    · refine e_lload_n 1 dX11_asSort_16 rfl rfl ?_
      refine e_l2i dX11_asSort_17 ?_
      refine e_i2s dX11_asSort_18 ?_
      refine e_i2l dX11_asSort_19 ?_
      refine e_goto 54 dX11_asSort_20 (by decide) ?_
      cases hf
      exact e_lret dX11_asSort_54 rfl hP
  · refine e_lload_n 1 dX11_asSort_4 rfl rfl ?_
    refine e_l2i dX11_asSort_5 ?_
    refine e_i2b dX11_asSort_6 ?_
    refine e_i2l dX11_asSort_7 ?_
    refine e_goto 54 dX11_asSort_8 (by decide) ?_
    cases hf
    exact e_lret dX11_asSort_54 rfl hP

theorem dX11_put_0 : decode cX11_put 0 = .ok (.aload_n 0, 1) := by decide +kernel
theorem dX11_put_1 : decode cX11_put 1 = .ok (.iload_n 1, 1) := by decide +kernel
theorem dX11_put_2 : decode cX11_put 2 = .ok (.iload_n 2, 1) := by decide +kernel
theorem dX11_put_3 : decode cX11_put 3 = .ok (.invokevirtual 317, 3) := by decide +kernel
theorem dX11_put_6 : decode cX11_put 6 = .ok (.istore 5, 2) := by decide +kernel
theorem dX11_put_8 : decode cX11_put 8 = .ok (.iload 5, 2) := by decide +kernel
theorem dX11_put_10 : decode cX11_put 10 = .ok (.ifCond .ne 27, 3) := by decide +kernel
theorem dX11_put_13 : decode cX11_put 13 = .ok (.aload_n 0, 1) := by decide +kernel
theorem dX11_put_14 : decode cX11_put 14 = .ok (.getfield 74, 3) := by decide +kernel
theorem dX11_put_17 : decode cX11_put 17 = .ok (.bipush 60, 2) := by decide +kernel
theorem dX11_put_19 : decode cX11_put 19 = .ok (.iload_n 1, 1) := by decide +kernel
theorem dX11_put_20 : decode cX11_put 20 = .ok (.imul, 1) := by decide +kernel
theorem dX11_put_21 : decode cX11_put 21 = .ok (.iload_n 2, 1) := by decide +kernel
theorem dX11_put_22 : decode cX11_put 22 = .ok (.iadd, 1) := by decide +kernel
theorem dX11_put_23 : decode cX11_put 23 = .ok (.aload_n 0, 1) := by decide +kernel
theorem dX11_put_24 : decode cX11_put 24 = .ok (.getfield 68, 3) := by decide +kernel
theorem dX11_put_27 : decode cX11_put 27 = .ok (.iload_n 1, 1) := by decide +kernel
theorem dX11_put_28 : decode cX11_put 28 = .ok (.iaload, 1) := by decide +kernel
theorem dX11_put_29 : decode cX11_put 29 = .ok (.bipush 50, 2) := by decide +kernel
theorem dX11_put_31 : decode cX11_put 31 = .ok (.isub, 1) := by decide +kernel
theorem dX11_put_32 : decode cX11_put 32 = .ok (.lload_n 3, 1) := by decide +kernel
theorem dX11_put_33 : decode cX11_put 33 = .ok (.invokestatic 320, 3) := by decide +kernel
theorem dX11_put_36 : decode cX11_put 36 = .ok (.lastore, 1) := by decide +kernel
theorem dX11_put_37 : decode cX11_put 37 = .ok (.iload 5, 2) := by decide +kernel
theorem dX11_put_39 : decode cX11_put 39 = .ok (.ifCond .ne 7, 3) := by decide +kernel
theorem dX11_put_42 : decode cX11_put 42 = .ok (.iconst 1, 1) := by decide +kernel
theorem dX11_put_43 : decode cX11_put 43 = .ok (.goto 5, 3) := by decide +kernel
theorem dX11_put_46 : decode cX11_put 46 = .ok (.iload 5, 2) := by decide +kernel
theorem dX11_put_48 : decode cX11_put 48 = .ok (.ireturn, 1) := by decide +kernel
def fX11_put_b37 (y5 : Int32) (s : mS) : Option (Int32 × mS) :=
  if y5 = 0 then
    some (1, s)
  else
    some (y5, s)

def fX11_put (x1 : Int32) (x2 : Int32) (x3 : Int64) (s : mS) : Option (Int32 × mS) :=
  bO (fX11_refusal x1 x2 s) fun r1 =>
  bnd r1 fun v2 =>
  if v2 = 0 then
    ldA s aX_shelf 6 x1 fun v3 =>
    bO (fX11_asSort (v3 - 50) x3 s) fun r4 =>
    stL s lX_items 360 ((60 * x1) + x2) r4 fun s5 =>
    fX11_put_b37 v2 s5
  else
    fX11_put_b37 v2 s

set_option maxRecDepth 20000 in
theorem wX11_put_b37 {ρ : mRo} {d : Nat} {P : mPo} {V : mS → List mE} (hV : mView LX V)  {res : (Int32 × mS)} (hP : P (some (.int res.1)) (V res.2)) (y5 : Int32) (s : mS) (hf : fX11_put_b37 y5 s = some res) : mG ρ (mC ρ (d + 3)) 11 6 cX11_put (some .int) P 37 [(5, .int y5)] [] (V s) := by
  unfold fX11_put_b37 at hf
  refine e_iload 0 dX11_put_37 rfl ?_
  refine e_if_ne 46 dX11_put_39 (by decide) hf (fun hf => ?_) (fun hf => ?_)
  · refine e_iload 0 dX11_put_46 rfl ?_
    cases hf
    exact e_iret dX11_put_48 trivial hP
  · refine e_iconst (w := 1) dX11_put_42 (by decide) ?_
    refine e_goto 48 dX11_put_43 (by decide) ?_
    cases hf
    exact e_iret dX11_put_48 trivial hP
set_option maxRecDepth 20000 in
theorem tX11_put {ρ : mRo} {d : Nat} {P : mPo} {V : mS → List mE} (hV : mView LX V)  {x1 : Int32} {x2 : Int32} {x3 : Int64} {s : mS} {res : (Int32 × mS)} (hf : fX11_put x1 x2 x3 s = some res) (hP : P (some (.int res.1)) (V res.2)) : mC ρ (d + 4) 227 [.ref qX, .int x1, .int x2, .long x3] (V s) P := by
  refine ⟨_, rfl, Nat.le_of_ble_eq_true rfl, by decide, ?_⟩
  show mG ρ (mC ρ (d + 3)) 11 6 cX11_put (some .int) P 0 [(0, .ref qX), (1, .int x1), (2, .int x2), (3, .long x3)] [] (V s)
  unfold fX11_put at hf
  refine e_aload_n 0 dX11_put_0 rfl rfl ?_
  refine e_iload_n 1 dX11_put_1 rfl rfl ?_
  refine e_iload_n 2 dX11_put_2 rfl rfl ?_
  obtain ⟨r1, hg, hf⟩ := bO_some hf
  refine e_callV (as := [.int x1, .int x2]) (v := (some (.int r1))) (s' := s) hV dX11_put_3 (Or.inl rfl) rfl rfl rfl rfl (Nat.le_of_ble_eq_true rfl) lx_X rfl rfl (fun Q hQ => tX11_refusal (d := d) hV  hg hQ) ?_
  refine e_istore dX11_put_6 (by decide) hf (fun v2 hf => ?_)
  refine e_iload 0 dX11_put_8 rfl ?_
  refine e_if_ne 37 dX11_put_10 (by decide) hf (fun hf => ?_) (fun hf => ?_)
  · refine e_pick [0] rfl ?_
    exact wX11_put_b37 hV hP v2 s hf
  · refine e_aload_n 1 dX11_put_13 rfl rfl ?_
    refine e_getr hV dX11_put_14 rfl lx_X rfl ?_
    refine e_bipush (w := 60) dX11_put_17 (by decide) ?_
    refine e_iload_n 2 dX11_put_19 rfl rfl ?_
    refine e_imul dX11_put_20 ?_
    refine e_iload_n 3 dX11_put_21 rfl rfl ?_
    refine e_iadd dX11_put_22 ?_
    refine e_aload_n 1 dX11_put_23 rfl rfl ?_
    refine e_getr hV dX11_put_24 rfl lx_X rfl ?_
    refine e_iload_n 2 dX11_put_27 rfl rfl ?_
    refine e_iald hV dX11_put_28 lx_X_shelf hf (fun v3 hf => ?_)
    refine e_bipush (w := 50) dX11_put_29 (by decide) ?_
    refine e_isub dX11_put_31 ?_
    refine e_lload_n 4 dX11_put_32 rfl rfl ?_
    obtain ⟨r4, hg, hf⟩ := bO_some hf
    refine e_callS (as := [.int (v3 - 50), .long x3]) (v := (some (.long r4))) (s' := s) dX11_put_33 rfl rfl rfl rfl rfl (Nat.le_of_ble_eq_true rfl) (fun Q hQ => tX11_asSort (d := (d + 2)) hV  hg hQ) ?_
    refine e_last hV dX11_put_36 lx_X_items hf (fun s5 hf => ?_)
    refine e_pick [0] rfl ?_
    exact wX11_put_b37 hV hP v2 s5 hf

theorem dX11_element_0 : decode cX11_element 0 = .ok (.aload_n 0, 1) := by decide +kernel
theorem dX11_element_1 : decode cX11_element 1 = .ok (.iload_n 1, 1) := by decide +kernel
theorem dX11_element_2 : decode cX11_element 2 = .ok (.iload_n 2, 1) := by decide +kernel
theorem dX11_element_3 : decode cX11_element 3 = .ok (.invokevirtual 317, 3) := by decide +kernel
theorem dX11_element_6 : decode cX11_element 6 = .ok (.ifCond .eq 9, 3) := by decide +kernel
theorem dX11_element_9 : decode cX11_element 9 = .ok (.ldc2_w 326, 3) := by decide +kernel
theorem dX11_element_12 : decode cX11_element 12 = .ok (.goto 14, 3) := by decide +kernel
theorem dX11_element_15 : decode cX11_element 15 = .ok (.aload_n 0, 1) := by decide +kernel
theorem dX11_element_16 : decode cX11_element 16 = .ok (.getfield 74, 3) := by decide +kernel
theorem dX11_element_19 : decode cX11_element 19 = .ok (.bipush 60, 2) := by decide +kernel
theorem dX11_element_21 : decode cX11_element 21 = .ok (.iload_n 1, 1) := by decide +kernel
theorem dX11_element_22 : decode cX11_element 22 = .ok (.imul, 1) := by decide +kernel
theorem dX11_element_23 : decode cX11_element 23 = .ok (.iload_n 2, 1) := by decide +kernel
theorem dX11_element_24 : decode cX11_element 24 = .ok (.iadd, 1) := by decide +kernel
theorem dX11_element_25 : decode cX11_element 25 = .ok (.laload, 1) := by decide +kernel
theorem dX11_element_26 : decode cX11_element 26 = .ok (.lreturn, 1) := by decide +kernel
def fX11_element (x1 : Int32) (x2 : Int32) (s : mS) : Option Int64 :=
  bO (fX11_refusal x1 x2 s) fun r1 =>
  if r1 = 0 then
    ldL s lX_items 360 ((60 * x1) + x2) fun v2 =>
    some v2
  else
    some (-9223372036854775808)

set_option maxRecDepth 20000 in
theorem tX11_element {ρ : mRo} {d : Nat} {P : mPo} {V : mS → List mE} (hV : mView LX V)  {x1 : Int32} {x2 : Int32} {s : mS} {res : Int64} (hf : fX11_element x1 x2 s = some res) (hP : P (some (.long res)) (V s)) : mC ρ (d + 4) 228 [.ref qX, .int x1, .int x2] (V s) P := by
  refine ⟨_, rfl, Nat.le_of_ble_eq_true rfl, by decide, ?_⟩
  show mG ρ (mC ρ (d + 3)) 11 3 cX11_element (some .long) P 0 [(0, .ref qX), (1, .int x1), (2, .int x2)] [] (V s)
  unfold fX11_element at hf
  refine e_aload_n 0 dX11_element_0 rfl rfl ?_
  refine e_iload_n 1 dX11_element_1 rfl rfl ?_
  refine e_iload_n 2 dX11_element_2 rfl rfl ?_
  obtain ⟨r1, hg, hf⟩ := bO_some hf
  refine e_callV (as := [.int x1, .int x2]) (v := (some (.int r1))) (s' := s) hV dX11_element_3 (Or.inl rfl) rfl rfl rfl rfl (Nat.le_of_ble_eq_true rfl) lx_X rfl rfl (fun Q hQ => tX11_refusal (d := d) hV  hg hQ) ?_
  refine e_if_eq 15 dX11_element_6 (by decide) hf (fun hf => ?_) (fun hf => ?_)
  · refine e_aload_n 0 dX11_element_15 rfl rfl ?_
    refine e_getr hV dX11_element_16 rfl lx_X rfl ?_
    refine e_bipush (w := 60) dX11_element_19 (by decide) ?_
    refine e_iload_n 1 dX11_element_21 rfl rfl ?_
    refine e_imul dX11_element_22 ?_
    refine e_iload_n 2 dX11_element_23 rfl rfl ?_
    refine e_iadd dX11_element_24 ?_
    refine e_lald hV dX11_element_25 lx_X_items hf (fun v2 hf => ?_)
    cases hf
    exact e_lret dX11_element_26 rfl hP
  · refine e_ldc2_w (w := (-9223372036854775808)) dX11_element_9 rfl ?_
    refine e_goto 26 dX11_element_12 (by decide) ?_
    cases hf
    exact e_lret dX11_element_26 rfl hP

theorem dX11_shift_0 : decode cX11_shift 0 = .ok (.iload_n 1, 1) := by decide +kernel
theorem dX11_shift_1 : decode cX11_shift 1 = .ok (.invokestatic 111, 3) := by decide +kernel
theorem dX11_shift_4 : decode cX11_shift 4 = .ok (.ifCond .eq 10, 3) := by decide +kernel
theorem dX11_shift_7 : decode cX11_shift 7 = .ok (.iload_n 3, 1) := by decide +kernel
theorem dX11_shift_8 : decode cX11_shift 8 = .ok (.invokestatic 111, 3) := by decide +kernel
theorem dX11_shift_11 : decode cX11_shift 11 = .ok (.ifCond .ne 5, 3) := by decide +kernel
theorem dX11_shift_14 : decode cX11_shift 14 = .ok (.iconst (-1), 1) := by decide +kernel
theorem dX11_shift_15 : decode cX11_shift 15 = .ok (.ireturn, 1) := by decide +kernel
theorem dX11_shift_16 : decode cX11_shift 16 = .ok (.aload_n 0, 1) := by decide +kernel
theorem dX11_shift_17 : decode cX11_shift 17 = .ok (.getfield 68, 3) := by decide +kernel
theorem dX11_shift_20 : decode cX11_shift 20 = .ok (.iload_n 1, 1) := by decide +kernel
theorem dX11_shift_21 : decode cX11_shift 21 = .ok (.iaload, 1) := by decide +kernel
theorem dX11_shift_22 : decode cX11_shift 22 = .ok (.ifCond .lt 12, 3) := by decide +kernel
theorem dX11_shift_25 : decode cX11_shift 25 = .ok (.aload_n 0, 1) := by decide +kernel
theorem dX11_shift_26 : decode cX11_shift 26 = .ok (.getfield 68, 3) := by decide +kernel
theorem dX11_shift_29 : decode cX11_shift 29 = .ok (.iload_n 3, 1) := by decide +kernel
theorem dX11_shift_30 : decode cX11_shift 30 = .ok (.iaload, 1) := by decide +kernel
theorem dX11_shift_31 : decode cX11_shift 31 = .ok (.ifCond .ge 6, 3) := by decide +kernel
theorem dX11_shift_34 : decode cX11_shift 34 = .ok (.bipush (-11), 2) := by decide +kernel
theorem dX11_shift_36 : decode cX11_shift 36 = .ok (.ireturn, 1) := by decide +kernel
theorem dX11_shift_37 : decode cX11_shift 37 = .ok (.aload_n 0, 1) := by decide +kernel
theorem dX11_shift_38 : decode cX11_shift 38 = .ok (.getfield 68, 3) := by decide +kernel
theorem dX11_shift_41 : decode cX11_shift 41 = .ok (.iload_n 1, 1) := by decide +kernel
theorem dX11_shift_42 : decode cX11_shift 42 = .ok (.iaload, 1) := by decide +kernel
theorem dX11_shift_43 : decode cX11_shift 43 = .ok (.bipush 50, 2) := by decide +kernel
theorem dX11_shift_45 : decode cX11_shift 45 = .ok (.if_icmp .lt 18, 3) := by decide +kernel
theorem dX11_shift_48 : decode cX11_shift 48 = .ok (.aload_n 0, 1) := by decide +kernel
theorem dX11_shift_49 : decode cX11_shift 49 = .ok (.getfield 68, 3) := by decide +kernel
theorem dX11_shift_52 : decode cX11_shift 52 = .ok (.iload_n 1, 1) := by decide +kernel
theorem dX11_shift_53 : decode cX11_shift 53 = .ok (.iaload, 1) := by decide +kernel
theorem dX11_shift_54 : decode cX11_shift 54 = .ok (.aload_n 0, 1) := by decide +kernel
theorem dX11_shift_55 : decode cX11_shift 55 = .ok (.getfield 68, 3) := by decide +kernel
theorem dX11_shift_58 : decode cX11_shift 58 = .ok (.iload_n 3, 1) := by decide +kernel
theorem dX11_shift_59 : decode cX11_shift 59 = .ok (.iaload, 1) := by decide +kernel
theorem dX11_shift_60 : decode cX11_shift 60 = .ok (.if_icmp .eq 6, 3) := by decide +kernel
theorem dX11_shift_63 : decode cX11_shift 63 = .ok (.bipush (-12), 2) := by decide +kernel
theorem dX11_shift_65 : decode cX11_shift 65 = .ok (.ireturn, 1) := by decide +kernel
theorem dX11_shift_66 : decode cX11_shift 66 = .ok (.iload 5, 2) := by decide +kernel
theorem dX11_shift_68 : decode cX11_shift 68 = .ok (.ifCond .lt 39, 3) := by decide +kernel
theorem dX11_shift_71 : decode cX11_shift 71 = .ok (.iload_n 2, 1) := by decide +kernel
theorem dX11_shift_72 : decode cX11_shift 72 = .ok (.ifCond .lt 35, 3) := by decide +kernel
theorem dX11_shift_75 : decode cX11_shift 75 = .ok (.iload 4, 2) := by decide +kernel
theorem dX11_shift_77 : decode cX11_shift 77 = .ok (.ifCond .lt 30, 3) := by decide +kernel
theorem dX11_shift_80 : decode cX11_shift 80 = .ok (.iload_n 2, 1) := by decide +kernel
theorem dX11_shift_81 : decode cX11_shift 81 = .ok (.aload_n 0, 1) := by decide +kernel
theorem dX11_shift_82 : decode cX11_shift 82 = .ok (.getfield 71, 3) := by decide +kernel
theorem dX11_shift_85 : decode cX11_shift 85 = .ok (.iload_n 1, 1) := by decide +kernel
theorem dX11_shift_86 : decode cX11_shift 86 = .ok (.iaload, 1) := by decide +kernel
theorem dX11_shift_87 : decode cX11_shift 87 = .ok (.iload 5, 2) := by decide +kernel
theorem dX11_shift_89 : decode cX11_shift 89 = .ok (.isub, 1) := by decide +kernel
theorem dX11_shift_90 : decode cX11_shift 90 = .ok (.if_icmp .gt 17, 3) := by decide +kernel
theorem dX11_shift_93 : decode cX11_shift 93 = .ok (.iload 4, 2) := by decide +kernel
theorem dX11_shift_95 : decode cX11_shift 95 = .ok (.aload_n 0, 1) := by decide +kernel
theorem dX11_shift_96 : decode cX11_shift 96 = .ok (.getfield 71, 3) := by decide +kernel
theorem dX11_shift_99 : decode cX11_shift 99 = .ok (.iload_n 3, 1) := by decide +kernel
theorem dX11_shift_100 : decode cX11_shift 100 = .ok (.iaload, 1) := by decide +kernel
theorem dX11_shift_101 : decode cX11_shift 101 = .ok (.iload 5, 2) := by decide +kernel
theorem dX11_shift_103 : decode cX11_shift 103 = .ok (.isub, 1) := by decide +kernel
theorem dX11_shift_104 : decode cX11_shift 104 = .ok (.if_icmp .le 6, 3) := by decide +kernel
theorem dX11_shift_107 : decode cX11_shift 107 = .ok (.bipush (-13), 2) := by decide +kernel
theorem dX11_shift_109 : decode cX11_shift 109 = .ok (.ireturn, 1) := by decide +kernel
theorem dX11_shift_110 : decode cX11_shift 110 = .ok (.iconst 0, 1) := by decide +kernel
theorem dX11_shift_111 : decode cX11_shift 111 = .ok (.istore 6, 2) := by decide +kernel
theorem dX11_shift_113 : decode cX11_shift 113 = .ok (.iload 6, 2) := by decide +kernel
theorem dX11_shift_115 : decode cX11_shift 115 = .ok (.iload 5, 2) := by decide +kernel
theorem dX11_shift_117 : decode cX11_shift 117 = .ok (.if_icmp .ge 30, 3) := by decide +kernel
theorem dX11_shift_120 : decode cX11_shift 120 = .ok (.aload_n 0, 1) := by decide +kernel
theorem dX11_shift_121 : decode cX11_shift 121 = .ok (.getfield 78, 3) := by decide +kernel
theorem dX11_shift_124 : decode cX11_shift 124 = .ok (.iload 6, 2) := by decide +kernel
theorem dX11_shift_126 : decode cX11_shift 126 = .ok (.aload_n 0, 1) := by decide +kernel
theorem dX11_shift_127 : decode cX11_shift 127 = .ok (.getfield 74, 3) := by decide +kernel
theorem dX11_shift_130 : decode cX11_shift 130 = .ok (.bipush 60, 2) := by decide +kernel
theorem dX11_shift_132 : decode cX11_shift 132 = .ok (.iload_n 1, 1) := by decide +kernel
theorem dX11_shift_133 : decode cX11_shift 133 = .ok (.imul, 1) := by decide +kernel
theorem dX11_shift_134 : decode cX11_shift 134 = .ok (.iload_n 2, 1) := by decide +kernel
theorem dX11_shift_135 : decode cX11_shift 135 = .ok (.iadd, 1) := by decide +kernel
theorem dX11_shift_136 : decode cX11_shift 136 = .ok (.iload 6, 2) := by decide +kernel
theorem dX11_shift_138 : decode cX11_shift 138 = .ok (.iadd, 1) := by decide +kernel
theorem dX11_shift_139 : decode cX11_shift 139 = .ok (.laload, 1) := by decide +kernel
theorem dX11_shift_140 : decode cX11_shift 140 = .ok (.lastore, 1) := by decide +kernel
theorem dX11_shift_141 : decode cX11_shift 141 = .ok (.iinc 6 1, 3) := by decide +kernel
theorem dX11_shift_144 : decode cX11_shift 144 = .ok (.goto (-31), 3) := by decide +kernel
theorem dX11_shift_147 : decode cX11_shift 147 = .ok (.iconst 0, 1) := by decide +kernel
theorem dX11_shift_148 : decode cX11_shift 148 = .ok (.istore 6, 2) := by decide +kernel
theorem dX11_shift_150 : decode cX11_shift 150 = .ok (.iload 6, 2) := by decide +kernel
theorem dX11_shift_152 : decode cX11_shift 152 = .ok (.iload 5, 2) := by decide +kernel
theorem dX11_shift_154 : decode cX11_shift 154 = .ok (.if_icmp .ge 31, 3) := by decide +kernel
theorem dX11_shift_157 : decode cX11_shift 157 = .ok (.aload_n 0, 1) := by decide +kernel
theorem dX11_shift_158 : decode cX11_shift 158 = .ok (.getfield 74, 3) := by decide +kernel
theorem dX11_shift_161 : decode cX11_shift 161 = .ok (.bipush 60, 2) := by decide +kernel
theorem dX11_shift_163 : decode cX11_shift 163 = .ok (.iload_n 3, 1) := by decide +kernel
theorem dX11_shift_164 : decode cX11_shift 164 = .ok (.imul, 1) := by decide +kernel
theorem dX11_shift_165 : decode cX11_shift 165 = .ok (.iload 4, 2) := by decide +kernel
theorem dX11_shift_167 : decode cX11_shift 167 = .ok (.iadd, 1) := by decide +kernel
theorem dX11_shift_168 : decode cX11_shift 168 = .ok (.iload 6, 2) := by decide +kernel
theorem dX11_shift_170 : decode cX11_shift 170 = .ok (.iadd, 1) := by decide +kernel
theorem dX11_shift_171 : decode cX11_shift 171 = .ok (.aload_n 0, 1) := by decide +kernel
theorem dX11_shift_172 : decode cX11_shift 172 = .ok (.getfield 78, 3) := by decide +kernel
theorem dX11_shift_175 : decode cX11_shift 175 = .ok (.iload 6, 2) := by decide +kernel
theorem dX11_shift_177 : decode cX11_shift 177 = .ok (.laload, 1) := by decide +kernel
theorem dX11_shift_178 : decode cX11_shift 178 = .ok (.lastore, 1) := by decide +kernel
theorem dX11_shift_179 : decode cX11_shift 179 = .ok (.iinc 6 1, 3) := by decide +kernel
theorem dX11_shift_182 : decode cX11_shift 182 = .ok (.goto (-32), 3) := by decide +kernel
theorem dX11_shift_185 : decode cX11_shift 185 = .ok (.iload 5, 2) := by decide +kernel
theorem dX11_shift_187 : decode cX11_shift 187 = .ok (.ireturn, 1) := by decide +kernel
def fX11_shift_b150 : Nat → Int32 → Int32 → Int32 → Int32 → mS → Option (Int32 × mS)
  | 0, _, _, _, _, _ => none
  | k + 1, y3, y4, y5, y6, s =>
    if y5 ≤ y6 then
      some (y5, s)
    else
      ldL s lX_carried 60 y6 fun v12 =>
      stL s lX_items 360 (((60 * y3) + y4) + y6) v12 fun s13 =>
      bnd (y6 + 1) fun v14 =>
      fX11_shift_b150 k y3 y4 y5 v14 s13

def fX11_shift_b113 : Nat → Int32 → Int32 → Int32 → Int32 → Int32 → Int32 → mS → Option (Int32 × mS)
  | 0, _, _, _, _, _, _, _ => none
  | k + 1, y1, y2, y3, y4, y5, y6, s =>
    if y5 ≤ y6 then
      bnd 0 fun v11 =>
      fX11_shift_b150 mFu y3 y4 y5 v11 s
    else
      ldL s lX_items 360 (((60 * y1) + y2) + y6) fun v15 =>
      stL s lX_carried 60 y6 v15 fun s16 =>
      bnd (y6 + 1) fun v17 =>
      fX11_shift_b113 k y1 y2 y3 y4 y5 v17 s16

def fX11_shift (x1 : Int32) (x2 : Int32) (x3 : Int32) (x4 : Int32) (x5 : Int32) (s : mS) : Option (Int32 × mS) :=
  bO (fX11_isShelf x1 s) fun r1 =>
  if r1 = 0 then
    some ((-1), s)
  else
    bO (fX11_isShelf x3 s) fun r2 =>
    if r2 = 0 then
      some ((-1), s)
    else
      ldA s aX_shelf 6 x1 fun v3 =>
      if v3 < 0 then
        some ((-11), s)
      else
        ldA s aX_shelf 6 x3 fun v4 =>
        if 0 ≤ v4 then
          ldA s aX_shelf 6 x1 fun v5 =>
          if v5 < 50 then
            some ((-12), s)
          else
            ldA s aX_shelf 6 x1 fun v6 =>
            ldA s aX_shelf 6 x3 fun v7 =>
            if v6 = v7 then
              if x5 < 0 then
                some ((-13), s)
              else
                if x2 < 0 then
                  some ((-13), s)
                else
                  if x4 < 0 then
                    some ((-13), s)
                  else
                    ldA s aX_many 6 x1 fun v8 =>
                    if (v8 - x5) < x2 then
                      some ((-13), s)
                    else
                      ldA s aX_many 6 x3 fun v9 =>
                      if x4 ≤ (v9 - x5) then
                        bnd 0 fun v10 =>
                        fX11_shift_b113 mFu x1 x2 x3 x4 x5 v10 s
                      else
                        some ((-13), s)
            else
              some ((-12), s)
        else
          some ((-11), s)

set_option maxRecDepth 20000 in
theorem wX11_shift_b150 {ρ : mRo} {d : Nat} {P : mPo} {V : mS → List mE} (hV : mView LX V)  {res : (Int32 × mS)} (hP : P (some (.int res.1)) (V res.2)) : ∀ (k : Nat) (y3 : Int32) (y4 : Int32) (y5 : Int32) (y6 : Int32) (s : mS), fX11_shift_b150 k y3 y4 y5 y6 s = some res → mG ρ (mC ρ (d + 2)) 11 7 cX11_shift (some .int) P 150 [(0, .ref qX), (3, .int y3), (4, .int y4), (5, .int y5), (6, .int y6)] [] (V s) := by
  intro k
  induction k with
  | zero => intro y3 y4 y5 y6 s hf; rw [fX11_shift_b150] at hf; cases hf
  | succ k ih =>
    intro y3 y4 y5 y6 s hf
    rw [fX11_shift_b150] at hf
    refine e_iload 4 dX11_shift_150 rfl ?_
    refine e_iload 3 dX11_shift_152 rfl ?_
    refine e_icmp_ge 185 dX11_shift_154 (by decide) hf (fun hf => ?_) (fun hf => ?_)
    · refine e_iload 3 dX11_shift_185 rfl ?_
      cases hf
      exact e_iret dX11_shift_187 trivial hP
    · refine e_aload_n 0 dX11_shift_157 rfl rfl ?_
      refine e_getr hV dX11_shift_158 rfl lx_X rfl ?_
      refine e_bipush (w := 60) dX11_shift_161 (by decide) ?_
      refine e_iload_n 1 dX11_shift_163 rfl rfl ?_
      refine e_imul dX11_shift_164 ?_
      refine e_iload 2 dX11_shift_165 rfl ?_
      refine e_iadd dX11_shift_167 ?_
      refine e_iload 4 dX11_shift_168 rfl ?_
      refine e_iadd dX11_shift_170 ?_
      refine e_aload_n 0 dX11_shift_171 rfl rfl ?_
      refine e_getr hV dX11_shift_172 rfl lx_X rfl ?_
      refine e_iload 4 dX11_shift_175 rfl ?_
      refine e_lald hV dX11_shift_177 lx_X_carried hf (fun v12 hf => ?_)
      refine e_last hV dX11_shift_178 lx_X_items hf (fun s13 hf => ?_)
      refine e_iinc 4 dX11_shift_179 rfl rfl hf (fun v14 hf => ?_)
      refine e_goto 150 dX11_shift_182 (by decide) ?_
      refine e_pick [1, 2, 3, 4, 0] rfl ?_
      exact ih y3 y4 y5 v14 s13 hf
set_option maxRecDepth 20000 in
theorem wX11_shift_b113 {ρ : mRo} {d : Nat} {P : mPo} {V : mS → List mE} (hV : mView LX V)  {res : (Int32 × mS)} (hP : P (some (.int res.1)) (V res.2)) : ∀ (k : Nat) (y1 : Int32) (y2 : Int32) (y3 : Int32) (y4 : Int32) (y5 : Int32) (y6 : Int32) (s : mS), fX11_shift_b113 k y1 y2 y3 y4 y5 y6 s = some res → mG ρ (mC ρ (d + 2)) 11 7 cX11_shift (some .int) P 113 [(0, .ref qX), (1, .int y1), (2, .int y2), (3, .int y3), (4, .int y4), (5, .int y5), (6, .int y6)] [] (V s) := by
  intro k
  induction k with
  | zero => intro y1 y2 y3 y4 y5 y6 s hf; rw [fX11_shift_b113] at hf; cases hf
  | succ k ih =>
    intro y1 y2 y3 y4 y5 y6 s hf
    rw [fX11_shift_b113] at hf
    refine e_iload 6 dX11_shift_113 rfl ?_
    refine e_iload 5 dX11_shift_115 rfl ?_
    refine e_icmp_ge 147 dX11_shift_117 (by decide) hf (fun hf => ?_) (fun hf => ?_)
    · refine e_iconst (w := 0) dX11_shift_147 (by decide) ?_
      refine e_istore dX11_shift_148 (by decide) hf (fun v11 hf => ?_)
      refine e_pick [1, 4, 5, 6, 0] rfl ?_
      exact wX11_shift_b150 hV hP mFu y3 y4 y5 v11 s hf
    · refine e_aload_n 0 dX11_shift_120 rfl rfl ?_
      refine e_getr hV dX11_shift_121 rfl lx_X rfl ?_
      refine e_iload 6 dX11_shift_124 rfl ?_
      refine e_aload_n 0 dX11_shift_126 rfl rfl ?_
      refine e_getr hV dX11_shift_127 rfl lx_X rfl ?_
      refine e_bipush (w := 60) dX11_shift_130 (by decide) ?_
      refine e_iload_n 1 dX11_shift_132 rfl rfl ?_
      refine e_imul dX11_shift_133 ?_
      refine e_iload_n 2 dX11_shift_134 rfl rfl ?_
      refine e_iadd dX11_shift_135 ?_
      refine e_iload 6 dX11_shift_136 rfl ?_
      refine e_iadd dX11_shift_138 ?_
      refine e_lald hV dX11_shift_139 lx_X_items hf (fun v15 hf => ?_)
      refine e_last hV dX11_shift_140 lx_X_carried hf (fun s16 hf => ?_)
      refine e_iinc 6 dX11_shift_141 rfl rfl hf (fun v17 hf => ?_)
      refine e_goto 113 dX11_shift_144 (by decide) ?_
      refine e_pick [1, 2, 3, 4, 5, 6, 0] rfl ?_
      exact ih y1 y2 y3 y4 y5 v17 s16 hf
set_option maxRecDepth 20000 in
theorem tX11_shift {ρ : mRo} {d : Nat} {P : mPo} {V : mS → List mE} (hV : mView LX V)  {x1 : Int32} {x2 : Int32} {x3 : Int32} {x4 : Int32} {x5 : Int32} {s : mS} {res : (Int32 × mS)} (hf : fX11_shift x1 x2 x3 x4 x5 s = some res) (hP : P (some (.int res.1)) (V res.2)) : mC ρ (d + 3) 229 [.ref qX, .int x1, .int x2, .int x3, .int x4, .int x5] (V s) P := by
  refine ⟨_, rfl, Nat.le_of_ble_eq_true rfl, by decide, ?_⟩
  show mG ρ (mC ρ (d + 2)) 11 7 cX11_shift (some .int) P 0 [(0, .ref qX), (1, .int x1), (2, .int x2), (3, .int x3), (4, .int x4), (5, .int x5)] [] (V s)
  unfold fX11_shift at hf
  refine e_iload_n 1 dX11_shift_0 rfl rfl ?_
  obtain ⟨r1, hg, hf⟩ := bO_some hf
  refine e_callS (as := [.int x1]) (v := (some (.int r1))) (s' := s) dX11_shift_1 rfl rfl rfl rfl rfl (Nat.le_of_ble_eq_true rfl) (fun Q hQ => tX11_isShelf (d := d) hV  hg hQ) ?_
  refine e_if_eq 14 dX11_shift_4 (by decide) hf (fun hf => ?_) (fun hf => ?_)
  · refine e_iconst (w := (-1)) dX11_shift_14 (by decide) ?_
    cases hf
    exact e_iret dX11_shift_15 trivial hP
  · refine e_iload_n 3 dX11_shift_7 rfl rfl ?_
    obtain ⟨r2, hg, hf⟩ := bO_some hf
    refine e_callS (as := [.int x3]) (v := (some (.int r2))) (s' := s) dX11_shift_8 rfl rfl rfl rfl rfl (Nat.le_of_ble_eq_true rfl) (fun Q hQ => tX11_isShelf (d := d) hV  hg hQ) ?_
    refine e_if_ne 16 dX11_shift_11 (by decide) hf (fun hf => ?_) (fun hf => ?_)
    · refine e_aload_n 0 dX11_shift_16 rfl rfl ?_
      refine e_getr hV dX11_shift_17 rfl lx_X rfl ?_
      refine e_iload_n 1 dX11_shift_20 rfl rfl ?_
      refine e_iald hV dX11_shift_21 lx_X_shelf hf (fun v3 hf => ?_)
      refine e_if_lt 34 dX11_shift_22 (by decide) hf (fun hf => ?_) (fun hf => ?_)
      · refine e_bipush (w := (-11)) dX11_shift_34 (by decide) ?_
        cases hf
        exact e_iret dX11_shift_36 trivial hP
      · refine e_aload_n 0 dX11_shift_25 rfl rfl ?_
        refine e_getr hV dX11_shift_26 rfl lx_X rfl ?_
        refine e_iload_n 3 dX11_shift_29 rfl rfl ?_
        refine e_iald hV dX11_shift_30 lx_X_shelf hf (fun v4 hf => ?_)
        refine e_if_ge 37 dX11_shift_31 (by decide) hf (fun hf => ?_) (fun hf => ?_)
        · refine e_aload_n 0 dX11_shift_37 rfl rfl ?_
          refine e_getr hV dX11_shift_38 rfl lx_X rfl ?_
          refine e_iload_n 1 dX11_shift_41 rfl rfl ?_
          refine e_iald hV dX11_shift_42 lx_X_shelf hf (fun v5 hf => ?_)
          refine e_bipush (w := 50) dX11_shift_43 (by decide) ?_
          refine e_icmp_lt 63 dX11_shift_45 (by decide) hf (fun hf => ?_) (fun hf => ?_)
          · refine e_bipush (w := (-12)) dX11_shift_63 (by decide) ?_
            cases hf
            exact e_iret dX11_shift_65 trivial hP
          · refine e_aload_n 0 dX11_shift_48 rfl rfl ?_
            refine e_getr hV dX11_shift_49 rfl lx_X rfl ?_
            refine e_iload_n 1 dX11_shift_52 rfl rfl ?_
            refine e_iald hV dX11_shift_53 lx_X_shelf hf (fun v6 hf => ?_)
            refine e_aload_n 0 dX11_shift_54 rfl rfl ?_
            refine e_getr hV dX11_shift_55 rfl lx_X rfl ?_
            refine e_iload_n 3 dX11_shift_58 rfl rfl ?_
            refine e_iald hV dX11_shift_59 lx_X_shelf hf (fun v7 hf => ?_)
            refine e_icmp_eq 66 dX11_shift_60 (by decide) hf (fun hf => ?_) (fun hf => ?_)
            · refine e_iload 5 dX11_shift_66 rfl ?_
              refine e_if_lt 107 dX11_shift_68 (by decide) hf (fun hf => ?_) (fun hf => ?_)
              · refine e_bipush (w := (-13)) dX11_shift_107 (by decide) ?_
                cases hf
                exact e_iret dX11_shift_109 trivial hP
              · refine e_iload_n 2 dX11_shift_71 rfl rfl ?_
                refine e_if_lt 107 dX11_shift_72 (by decide) hf (fun hf => ?_) (fun hf => ?_)
                · refine e_bipush (w := (-13)) dX11_shift_107 (by decide) ?_
                  cases hf
                  exact e_iret dX11_shift_109 trivial hP
                · refine e_iload 4 dX11_shift_75 rfl ?_
                  refine e_if_lt 107 dX11_shift_77 (by decide) hf (fun hf => ?_) (fun hf => ?_)
                  · refine e_bipush (w := (-13)) dX11_shift_107 (by decide) ?_
                    cases hf
                    exact e_iret dX11_shift_109 trivial hP
                  · refine e_iload_n 2 dX11_shift_80 rfl rfl ?_
                    refine e_aload_n 0 dX11_shift_81 rfl rfl ?_
                    refine e_getr hV dX11_shift_82 rfl lx_X rfl ?_
                    refine e_iload_n 1 dX11_shift_85 rfl rfl ?_
                    refine e_iald hV dX11_shift_86 lx_X_many hf (fun v8 hf => ?_)
                    refine e_iload 5 dX11_shift_87 rfl ?_
                    refine e_isub dX11_shift_89 ?_
                    refine e_icmp_gt 107 dX11_shift_90 (by decide) hf (fun hf => ?_) (fun hf => ?_)
                    · refine e_bipush (w := (-13)) dX11_shift_107 (by decide) ?_
                      cases hf
                      exact e_iret dX11_shift_109 trivial hP
                    · refine e_iload 4 dX11_shift_93 rfl ?_
                      refine e_aload_n 0 dX11_shift_95 rfl rfl ?_
                      refine e_getr hV dX11_shift_96 rfl lx_X rfl ?_
                      refine e_iload_n 3 dX11_shift_99 rfl rfl ?_
                      refine e_iald hV dX11_shift_100 lx_X_many hf (fun v9 hf => ?_)
                      refine e_iload 5 dX11_shift_101 rfl ?_
                      refine e_isub dX11_shift_103 ?_
                      refine e_icmp_le 110 dX11_shift_104 (by decide) hf (fun hf => ?_) (fun hf => ?_)
                      · refine e_iconst (w := 0) dX11_shift_110 (by decide) ?_
                        refine e_istore dX11_shift_111 (by decide) hf (fun v10 hf => ?_)
                        refine e_pick [1, 2, 3, 4, 5, 6, 0] rfl ?_
                        exact wX11_shift_b113 hV hP mFu x1 x2 x3 x4 x5 v10 s hf
                      · refine e_bipush (w := (-13)) dX11_shift_107 (by decide) ?_
                        cases hf
                        exact e_iret dX11_shift_109 trivial hP
            · refine e_bipush (w := (-12)) dX11_shift_63 (by decide) ?_
              cases hf
              exact e_iret dX11_shift_65 trivial hP
        · refine e_bipush (w := (-11)) dX11_shift_34 (by decide) ?_
          cases hf
          exact e_iret dX11_shift_36 trivial hP
    · refine e_iconst (w := (-1)) dX11_shift_14 (by decide) ?_
      cases hf
      exact e_iret dX11_shift_15 trivial hP
