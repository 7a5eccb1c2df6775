-- bytecode to functions, by program (wip/gen/decomp.py)
theorem dX11_teach_0 : decode cX11_teach 0 = .ok (.aload_n 0, 1) := by decide +kernel
theorem dX11_teach_1 : decode cX11_teach 1 = .ok (.iload_n 1, 1) := by decide +kernel
theorem dX11_teach_2 : decode cX11_teach 2 = .ok (.invokevirtual 214, 3) := by decide +kernel
theorem dX11_teach_5 : decode cX11_teach 5 = .ok (.ifCond .eq 37, 3) := by decide +kernel
theorem dX11_teach_8 : decode cX11_teach 8 = .ok (.iload_n 2, 1) := by decide +kernel
theorem dX11_teach_9 : decode cX11_teach 9 = .ok (.ifCond .lt 33, 3) := by decide +kernel
theorem dX11_teach_12 : decode cX11_teach 12 = .ok (.iload_n 2, 1) := by decide +kernel
theorem dX11_teach_13 : decode cX11_teach 13 = .ok (.bipush 100, 2) := by decide +kernel
theorem dX11_teach_15 : decode cX11_teach 15 = .ok (.idiv, 1) := by decide +kernel
theorem dX11_teach_16 : decode cX11_teach 16 = .ok (.i2l, 1) := by decide +kernel
theorem dX11_teach_17 : decode cX11_teach 17 = .ok (.lconst 0, 1) := by decide +kernel
theorem dX11_teach_18 : decode cX11_teach 18 = .ok (.ldc2_w 128, 3) := by decide +kernel
theorem dX11_teach_21 : decode cX11_teach 21 = .ok (.invokestatic 93, 3) := by decide +kernel
theorem dX11_teach_24 : decode cX11_teach 24 = .ok (.ifCond .eq 18, 3) := by decide +kernel
theorem dX11_teach_27 : decode cX11_teach 27 = .ok (.iload_n 2, 1) := by decide +kernel
theorem dX11_teach_28 : decode cX11_teach 28 = .ok (.bipush 100, 2) := by decide +kernel
theorem dX11_teach_30 : decode cX11_teach 30 = .ok (.irem, 1) := by decide +kernel
theorem dX11_teach_31 : decode cX11_teach 31 = .ok (.i2l, 1) := by decide +kernel
theorem dX11_teach_32 : decode cX11_teach 32 = .ok (.lconst 0, 1) := by decide +kernel
theorem dX11_teach_33 : decode cX11_teach 33 = .ok (.ldc2_w 117, 3) := by decide +kernel
theorem dX11_teach_36 : decode cX11_teach 36 = .ok (.invokestatic 93, 3) := by decide +kernel
theorem dX11_teach_39 : decode cX11_teach 39 = .ok (.ifCond .ne 5, 3) := by decide +kernel
theorem dX11_teach_42 : decode cX11_teach 42 = .ok (.iconst (-1), 1) := by decide +kernel
theorem dX11_teach_43 : decode cX11_teach 43 = .ok (.ireturn, 1) := by decide +kernel
theorem dX11_teach_44 : decode cX11_teach 44 = .ok (.aload_n 0, 1) := by decide +kernel
theorem dX11_teach_45 : decode cX11_teach 45 = .ok (.getfield 9, 3) := by decide +kernel
theorem dX11_teach_48 : decode cX11_teach 48 = .ok (.iconst 3, 1) := by decide +kernel
theorem dX11_teach_49 : decode cX11_teach 49 = .ok (.iload_n 1, 1) := by decide +kernel
theorem dX11_teach_50 : decode cX11_teach 50 = .ok (.bipush 10, 2) := by decide +kernel
theorem dX11_teach_52 : decode cX11_teach 52 = .ok (.irem, 1) := by decide +kernel
theorem dX11_teach_53 : decode cX11_teach 53 = .ok (.imul, 1) := by decide +kernel
theorem dX11_teach_54 : decode cX11_teach 54 = .ok (.iload_n 2, 1) := by decide +kernel
theorem dX11_teach_55 : decode cX11_teach 55 = .ok (.bipush 100, 2) := by decide +kernel
theorem dX11_teach_57 : decode cX11_teach 57 = .ok (.idiv, 1) := by decide +kernel
theorem dX11_teach_58 : decode cX11_teach 58 = .ok (.iadd, 1) := by decide +kernel
theorem dX11_teach_59 : decode cX11_teach 59 = .ok (.iaload, 1) := by decide +kernel
theorem dX11_teach_60 : decode cX11_teach 60 = .ok (.istore_n 3, 1) := by decide +kernel
theorem dX11_teach_61 : decode cX11_teach 61 = .ok (.iconst 0, 1) := by decide +kernel
theorem dX11_teach_62 : decode cX11_teach 62 = .ok (.istore 4, 2) := by decide +kernel
theorem dX11_teach_64 : decode cX11_teach 64 = .ok (.iload 4, 2) := by decide +kernel
theorem dX11_teach_66 : decode cX11_teach 66 = .ok (.bipush 30, 2) := by decide +kernel
theorem dX11_teach_68 : decode cX11_teach 68 = .ok (.if_icmp .gt 37, 3) := by decide +kernel
theorem dX11_teach_71 : decode cX11_teach 71 = .ok (.iload_n 3, 1) := by decide +kernel
theorem dX11_teach_72 : decode cX11_teach 72 = .ok (.iload_n 2, 1) := by decide +kernel
theorem dX11_teach_73 : decode cX11_teach 73 = .ok (.bipush 100, 2) := by decide +kernel
theorem dX11_teach_75 : decode cX11_teach 75 = .ok (.irem, 1) := by decide +kernel
theorem dX11_teach_76 : decode cX11_teach 76 = .ok (.if_icmp .ne 6, 3) := by decide +kernel
theorem dX11_teach_79 : decode cX11_teach 79 = .ok (.iload 4, 2) := by decide +kernel
theorem dX11_teach_81 : decode cX11_teach 81 = .ok (.ireturn, 1) := by decide +kernel
theorem dX11_teach_82 : decode cX11_teach 82 = .ok (.iload_n 3, 1) := by decide +kernel
theorem dX11_teach_83 : decode cX11_teach 83 = .ok (.aload_n 0, 1) := by decide +kernel
theorem dX11_teach_84 : decode cX11_teach 84 = .ok (.iload_n 1, 1) := by decide +kernel
theorem dX11_teach_85 : decode cX11_teach 85 = .ok (.bipush 10, 2) := by decide +kernel
theorem dX11_teach_87 : decode cX11_teach 87 = .ok (.idiv, 1) := by decide +kernel
theorem dX11_teach_88 : decode cX11_teach 88 = .ok (.iload_n 2, 1) := by decide +kernel
theorem dX11_teach_89 : decode cX11_teach 89 = .ok (.bipush 100, 2) := by decide +kernel
theorem dX11_teach_91 : decode cX11_teach 91 = .ok (.idiv, 1) := by decide +kernel
theorem dX11_teach_92 : decode cX11_teach 92 = .ok (.invokevirtual 198, 3) := by decide +kernel
theorem dX11_teach_95 : decode cX11_teach 95 = .ok (.invokestatic 211, 3) := by decide +kernel
theorem dX11_teach_98 : decode cX11_teach 98 = .ok (.istore_n 3, 1) := by decide +kernel
theorem dX11_teach_99 : decode cX11_teach 99 = .ok (.iinc 4 1, 3) := by decide +kernel
theorem dX11_teach_102 : decode cX11_teach 102 = .ok (.goto (-38), 3) := by decide +kernel
theorem dX11_teach_105 : decode cX11_teach 105 = .ok (.bipush (-2), 2) := by decide +kernel
theorem dX11_teach_107 : decode cX11_teach 107 = .ok (.ireturn, 1) := by decide +kernel
def fX11_teach_b64 : Nat → Int32 → Int32 → Int32 → Int32 → mS → Option Int32
  | 0, _, _, _, _, _ => none
  | k + 1, y1, y2, y3, y4, s =>
    if (nI 30) < y4 then
      some (-2)
    else
      if y3 = (y2 - y2 / (nI 100) * (nI 100)) then
        some y4
      else
        bO (fX11_handOf (y1 / (nI 10)) (y2 / (nI 100)) s) fun r7 =>
        bO (fX11_nearer y3 r7 s) fun r8 =>
        bnd r8 fun v9 =>
        bnd (y4 + (nI 1)) fun v10 =>
        fX11_teach_b64 k y1 y2 v9 v10 s

def fX11_teach (x1 : Int32) (x2 : Int32) (s : mS) : Option Int32 :=
  bO (fX11_isWm x1 s) fun r1 =>
  if r1 = 0 then
    some (-1)
  else
    if x2 < 0 then
      some (-1)
    else
      bO (fX11_within (Int32.toInt64 (x2 / (nI 100))) 0 2 s) fun r2 =>
      if r2 = 0 then
        some (-1)
      else
        bO (fX11_within (Int32.toInt64 (x2 - x2 / (nI 100) * (nI 100))) 0 12 s) fun r3 =>
        if r3 = 0 then
          some (-1)
        else
          ldA s aX_may 65 (((nI 3) * (x1 - x1 / (nI 10) * (nI 10))) + (x2 / (nI 100))) fun v4 =>
          bnd v4 fun v5 =>
          bnd (nI 0) fun v6 =>
          fX11_teach_b64 mFu x1 x2 v5 v6 s

set_option maxRecDepth 20000 in
theorem wX11_teach_b64 {ρ : mRo} {d : Nat} {P : mPo} {V : mS → List mE} (hV : mView LX V)  {res : Int32} {s : mS} (hP : P (some (.int res)) (V s)) : ∀ (k : Nat) (y1 : Int32) (y2 : Int32) (y3 : Int32) (y4 : Int32), fX11_teach_b64 k y1 y2 y3 y4 s = some res → mG ρ (mC ρ (d + 3)) 11 5 cX11_teach (some .int) P 64 [(0, .ref qX), (1, .int y1), (2, .int y2), (3, .int y3), (4, .int y4)] [] (V s) := by
  intro k
  induction k with
  | zero => intro y1 y2 y3 y4 hf; rw [fX11_teach_b64] at hf; cases hf
  | succ k ih =>
    intro y1 y2 y3 y4 hf
    rw [fX11_teach_b64] at hf
    refine e_iload 4 dX11_teach_64 rfl ?_
    refine e_bipush (w := (nI 30)) dX11_teach_66 (by decide) ?_
    refine e_icmp_gt 105 dX11_teach_68 (by decide) hf (fun hf => ?_) (fun hf => ?_)
    · refine e_bipush (w := (-2)) dX11_teach_105 (by decide) ?_
      obtain rfl := Option.some.inj hf
      exact e_iret dX11_teach_107 trivial hP
    · refine e_iload_n 3 dX11_teach_71 rfl rfl ?_
      refine e_iload_n 2 dX11_teach_72 rfl rfl ?_
      refine e_bipush (w := (nI 100)) dX11_teach_73 (by decide) ?_
      refine e_irem dX11_teach_75 (by decide) ?_
      refine e_icmp_ne 82 dX11_teach_76 (by decide) hf (fun hf => ?_) (fun hf => ?_)
      · refine e_iload_n 3 dX11_teach_82 rfl rfl ?_
        refine e_aload_n 0 dX11_teach_83 rfl rfl ?_
        refine e_iload_n 1 dX11_teach_84 rfl rfl ?_
        refine e_bipush (w := (nI 10)) dX11_teach_85 (by decide) ?_
        refine e_idiv dX11_teach_87 (by decide) ?_
        refine e_iload_n 2 dX11_teach_88 rfl rfl ?_
        refine e_bipush (w := (nI 100)) dX11_teach_89 (by decide) ?_
        refine e_idiv dX11_teach_91 (by decide) ?_
        obtain ⟨r7, hg, hf⟩ := bO_some hf
        refine e_callV (as := [.int (y1 / (nI 10)), .int (y2 / (nI 100))]) (v := (some (.int r7))) (s' := s) hV dX11_teach_92 (Or.inl rfl) rfl rfl rfl rfl (Nat.le_of_ble_eq_true rfl) lx_X rfl rfl (fun Q hQ => tX11_handOf (d := (d + 2)) hV  hg hQ) ?_
        obtain ⟨r8, hg, hf⟩ := bO_some hf
        refine e_callS (as := [.int y3, .int r7]) (v := (some (.int r8))) (s' := s) dX11_teach_95 rfl rfl rfl rfl rfl (Nat.le_of_ble_eq_true rfl) (fun Q hQ => tX11_nearer (d := (d + 2)) hV  hg hQ) ?_
        refine e_istore_n dX11_teach_98 rfl (by decide) hf (fun v9 hf => ?_)
        refine e_iinc 4 dX11_teach_99 (by decide) rfl hf (fun v10 hf => ?_)
        refine e_goto 64 dX11_teach_102 (by decide) ?_
        refine e_pick [2, 3, 4, 1, 0] rfl ?_
        exact ih y1 y2 v9 v10 hf
      · refine e_iload 4 dX11_teach_79 rfl ?_
        obtain rfl := Option.some.inj hf
        exact e_iret dX11_teach_81 trivial hP
set_option maxRecDepth 20000 in
theorem tX11_teach {ρ : mRo} {d : Nat} {P : mPo} {V : mS → List mE} (hV : mView LX V)  {x1 : Int32} {x2 : Int32} {s : mS} {res : Int32} (hf : fX11_teach x1 x2 s = some res) (hP : P (some (.int res)) (V s)) : mC ρ (d + 4) 186 [.ref qX, .int x1, .int x2] (V s) P := by
  refine ⟨_, rfl, Nat.le_of_ble_eq_true rfl, by decide, ?_⟩
  show mG ρ (mC ρ (d + 3)) 11 5 cX11_teach (some .int) P 0 [(0, .ref qX), (1, .int x1), (2, .int x2)] [] (V s)
  unfold fX11_teach at hf
  refine e_aload_n 0 dX11_teach_0 rfl rfl ?_
  refine e_iload_n 1 dX11_teach_1 rfl rfl ?_
  obtain ⟨r1, hg, hf⟩ := bO_some hf
  refine e_callV (as := [.int x1]) (v := (some (.int r1))) (s' := s) hV dX11_teach_2 (Or.inl rfl) rfl rfl rfl rfl (Nat.le_of_ble_eq_true rfl) lx_X rfl rfl (fun Q hQ => tX11_isWm (d := d) hV  hg hQ) ?_
  refine e_if_eq 42 dX11_teach_5 (by decide) hf (fun hf => ?_) (fun hf => ?_)
  · refine e_iconst (w := (-1)) dX11_teach_42 (by decide) ?_
    obtain rfl := Option.some.inj hf
    exact e_iret dX11_teach_43 trivial hP
  · refine e_iload_n 2 dX11_teach_8 rfl rfl ?_
    refine e_if_lt 42 dX11_teach_9 (by decide) hf (fun hf => ?_) (fun hf => ?_)
    · refine e_iconst (w := (-1)) dX11_teach_42 (by decide) ?_
      obtain rfl := Option.some.inj hf
      exact e_iret dX11_teach_43 trivial hP
    · refine e_iload_n 2 dX11_teach_12 rfl rfl ?_
      refine e_bipush (w := (nI 100)) dX11_teach_13 (by decide) ?_
      refine e_idiv dX11_teach_15 (by decide) ?_
      refine e_i2l dX11_teach_16 ?_
      refine e_lconst (w := 0) dX11_teach_17 (by decide) ?_
      refine e_ldc2_w (w := 2) dX11_teach_18 rfl ?_
      obtain ⟨r2, hg, hf⟩ := bO_some hf
      refine e_callS (as := [.long (Int32.toInt64 (x2 / (nI 100))), .long 0, .long 2]) (v := (some (.int r2))) (s' := s) dX11_teach_21 rfl rfl rfl rfl rfl (Nat.le_of_ble_eq_true rfl) (fun Q hQ => tX11_within (d := (d + 2)) hV  hg hQ) ?_
      refine e_if_eq 42 dX11_teach_24 (by decide) hf (fun hf => ?_) (fun hf => ?_)
      · refine e_iconst (w := (-1)) dX11_teach_42 (by decide) ?_
        obtain rfl := Option.some.inj hf
        exact e_iret dX11_teach_43 trivial hP
      · refine e_iload_n 2 dX11_teach_27 rfl rfl ?_
        refine e_bipush (w := (nI 100)) dX11_teach_28 (by decide) ?_
        refine e_irem dX11_teach_30 (by decide) ?_
        refine e_i2l dX11_teach_31 ?_
        refine e_lconst (w := 0) dX11_teach_32 (by decide) ?_
        refine e_ldc2_w (w := 12) dX11_teach_33 rfl ?_
        obtain ⟨r3, hg, hf⟩ := bO_some hf
        refine e_callS (as := [.long (Int32.toInt64 (x2 - x2 / (nI 100) * (nI 100))), .long 0, .long 12]) (v := (some (.int r3))) (s' := s) dX11_teach_36 rfl rfl rfl rfl rfl (Nat.le_of_ble_eq_true rfl) (fun Q hQ => tX11_within (d := (d + 2)) hV  hg hQ) ?_
        refine e_if_ne 44 dX11_teach_39 (by decide) hf (fun hf => ?_) (fun hf => ?_)
        · refine e_aload_n 0 dX11_teach_44 rfl rfl ?_
          refine e_getr hV dX11_teach_45 rfl lx_X rfl ?_
          refine e_iconst (w := (nI 3)) dX11_teach_48 (by decide) ?_
          refine e_iload_n 1 dX11_teach_49 rfl rfl ?_
          refine e_bipush (w := (nI 10)) dX11_teach_50 (by decide) ?_
          refine e_irem dX11_teach_52 (by decide) ?_
          refine e_imul dX11_teach_53 ?_
          refine e_iload_n 2 dX11_teach_54 rfl rfl ?_
          refine e_bipush (w := (nI 100)) dX11_teach_55 (by decide) ?_
          refine e_idiv dX11_teach_57 (by decide) ?_
          refine e_iadd dX11_teach_58 ?_
          refine e_iald hV dX11_teach_59 lx_X_may hf (fun v4 hf => ?_)
          refine e_istore_n dX11_teach_60 rfl (by decide) hf (fun v5 hf => ?_)
          refine e_iconst (w := (nI 0)) dX11_teach_61 (by decide) ?_
          refine e_istore dX11_teach_62 (by decide) hf (fun v6 hf => ?_)
          refine e_pick [2, 3, 4, 1, 0] rfl ?_
          exact wX11_teach_b64 hV hP mFu x1 x2 v5 v6 hf
        · refine e_iconst (w := (-1)) dX11_teach_42 (by decide) ?_
          obtain rfl := Option.some.inj hf
          exact e_iret dX11_teach_43 trivial hP

theorem dX11_codeBehind_0 : decode cX11_codeBehind 0 = .ok (.iconst 0, 1) := by decide +kernel
theorem dX11_codeBehind_1 : decode cX11_codeBehind 1 = .ok (.istore_n 3, 1) := by decide +kernel
theorem dX11_codeBehind_2 : decode cX11_codeBehind 2 = .ok (.iconst 0, 1) := by decide +kernel
theorem dX11_codeBehind_3 : decode cX11_codeBehind 3 = .ok (.istore 4, 2) := by decide +kernel
theorem dX11_codeBehind_5 : decode cX11_codeBehind 5 = .ok (.iload 4, 2) := by decide +kernel
theorem dX11_codeBehind_7 : decode cX11_codeBehind 7 = .ok (.iconst 3, 1) := by decide +kernel
theorem dX11_codeBehind_8 : decode cX11_codeBehind 8 = .ok (.if_icmp .ge 31, 3) := by decide +kernel
theorem dX11_codeBehind_11 : decode cX11_codeBehind 11 = .ok (.bipush 13, 2) := by decide +kernel
theorem dX11_codeBehind_13 : decode cX11_codeBehind 13 = .ok (.iload_n 3, 1) := by decide +kernel
theorem dX11_codeBehind_14 : decode cX11_codeBehind 14 = .ok (.imul, 1) := by decide +kernel
theorem dX11_codeBehind_15 : decode cX11_codeBehind 15 = .ok (.iload_n 1, 1) := by decide +kernel
theorem dX11_codeBehind_16 : decode cX11_codeBehind 16 = .ok (.iload 4, 2) := by decide +kernel
theorem dX11_codeBehind_18 : decode cX11_codeBehind 18 = .ok (.invokestatic 124, 3) := by decide +kernel
theorem dX11_codeBehind_21 : decode cX11_codeBehind 21 = .ok (.aload_n 0, 1) := by decide +kernel
theorem dX11_codeBehind_22 : decode cX11_codeBehind 22 = .ok (.iload_n 2, 1) := by decide +kernel
theorem dX11_codeBehind_23 : decode cX11_codeBehind 23 = .ok (.iload 4, 2) := by decide +kernel
theorem dX11_codeBehind_25 : decode cX11_codeBehind 25 = .ok (.invokevirtual 198, 3) := by decide +kernel
theorem dX11_codeBehind_28 : decode cX11_codeBehind 28 = .ok (.invokestatic 211, 3) := by decide +kernel
theorem dX11_codeBehind_31 : decode cX11_codeBehind 31 = .ok (.iadd, 1) := by decide +kernel
theorem dX11_codeBehind_32 : decode cX11_codeBehind 32 = .ok (.istore_n 3, 1) := by decide +kernel
theorem dX11_codeBehind_33 : decode cX11_codeBehind 33 = .ok (.iinc 4 1, 3) := by decide +kernel
theorem dX11_codeBehind_36 : decode cX11_codeBehind 36 = .ok (.goto (-31), 3) := by decide +kernel
theorem dX11_codeBehind_39 : decode cX11_codeBehind 39 = .ok (.iload_n 3, 1) := by decide +kernel
theorem dX11_codeBehind_40 : decode cX11_codeBehind 40 = .ok (.ireturn, 1) := by decide +kernel
def fX11_codeBehind_b5 : Nat → Int32 → Int32 → Int32 → Int32 → mS → Option Int32
  | 0, _, _, _, _, _ => none
  | k + 1, y1, y2, y3, y4, s =>
    if (nI 3) ≤ y4 then
      some y3
    else
      bO (fX11_inCode y1 y4 s) fun r3 =>
      bO (fX11_handOf y2 y4 s) fun r4 =>
      bO (fX11_nearer r3 r4 s) fun r5 =>
      bnd (((nI 13) * y3) + r5) fun v6 =>
      bnd (y4 + (nI 1)) fun v7 =>
      fX11_codeBehind_b5 k y1 y2 v6 v7 s

def fX11_codeBehind (x1 : Int32) (x2 : Int32) (s : mS) : Option Int32 :=
  bnd (nI 0) fun v1 =>
  bnd (nI 0) fun v2 =>
  fX11_codeBehind_b5 mFu x1 x2 v1 v2 s

set_option maxRecDepth 20000 in
theorem wX11_codeBehind_b5 {ρ : mRo} {d : Nat} {P : mPo} {V : mS → List mE} (hV : mView LX V)  {res : Int32} {s : mS} (hP : P (some (.int res)) (V s)) : ∀ (k : Nat) (y1 : Int32) (y2 : Int32) (y3 : Int32) (y4 : Int32), fX11_codeBehind_b5 k y1 y2 y3 y4 s = some res → mG ρ (mC ρ (d + 1)) 11 5 cX11_codeBehind (some .int) P 5 [(0, .ref qX), (1, .int y1), (2, .int y2), (3, .int y3), (4, .int y4)] [] (V s) := by
  intro k
  induction k with
  | zero => intro y1 y2 y3 y4 hf; rw [fX11_codeBehind_b5] at hf; cases hf
  | succ k ih =>
    intro y1 y2 y3 y4 hf
    rw [fX11_codeBehind_b5] at hf
    refine e_iload 4 dX11_codeBehind_5 rfl ?_
    refine e_iconst (w := (nI 3)) dX11_codeBehind_7 (by decide) ?_
    refine e_icmp_ge 39 dX11_codeBehind_8 (by decide) hf (fun hf => ?_) (fun hf => ?_)
    · refine e_iload_n 3 dX11_codeBehind_39 rfl rfl ?_
      obtain rfl := Option.some.inj hf
      exact e_iret dX11_codeBehind_40 trivial hP
    · refine e_bipush (w := (nI 13)) dX11_codeBehind_11 (by decide) ?_
      refine e_iload_n 3 dX11_codeBehind_13 rfl rfl ?_
      refine e_imul dX11_codeBehind_14 ?_
      refine e_iload_n 1 dX11_codeBehind_15 rfl rfl ?_
      refine e_iload 4 dX11_codeBehind_16 rfl ?_
      obtain ⟨r3, hg, hf⟩ := bO_some hf
      refine e_callS (as := [.int y1, .int y4]) (v := (some (.int r3))) (s' := s) dX11_codeBehind_18 rfl rfl rfl rfl rfl (Nat.le_of_ble_eq_true rfl) (fun Q hQ => tX11_inCode (d := d) hV  hg hQ) ?_
      refine e_aload_n 0 dX11_codeBehind_21 rfl rfl ?_
      refine e_iload_n 2 dX11_codeBehind_22 rfl rfl ?_
      refine e_iload 4 dX11_codeBehind_23 rfl ?_
      obtain ⟨r4, hg, hf⟩ := bO_some hf
      refine e_callV (as := [.int y2, .int y4]) (v := (some (.int r4))) (s' := s) hV dX11_codeBehind_25 (Or.inl rfl) rfl rfl rfl rfl (Nat.le_of_ble_eq_true rfl) lx_X rfl rfl (fun Q hQ => tX11_handOf (d := d) hV  hg hQ) ?_
      obtain ⟨r5, hg, hf⟩ := bO_some hf
      refine e_callS (as := [.int r3, .int r4]) (v := (some (.int r5))) (s' := s) dX11_codeBehind_28 rfl rfl rfl rfl rfl (Nat.le_of_ble_eq_true rfl) (fun Q hQ => tX11_nearer (d := d) hV  hg hQ) ?_
      refine e_iadd dX11_codeBehind_31 ?_
      refine e_istore_n dX11_codeBehind_32 rfl (by decide) hf (fun v6 hf => ?_)
      refine e_iinc 4 dX11_codeBehind_33 (by decide) rfl hf (fun v7 hf => ?_)
      refine e_goto 5 dX11_codeBehind_36 (by decide) ?_
      refine e_pick [2, 3, 4, 1, 0] rfl ?_
      exact ih y1 y2 v6 v7 hf
set_option maxRecDepth 20000 in
theorem tX11_codeBehind {ρ : mRo} {d : Nat} {P : mPo} {V : mS → List mE} (hV : mView LX V)  {x1 : Int32} {x2 : Int32} {s : mS} {res : Int32} (hf : fX11_codeBehind x1 x2 s = some res) (hP : P (some (.int res)) (V s)) : mC ρ (d + 2) 187 [.ref qX, .int x1, .int x2] (V s) P := by
  refine ⟨_, rfl, Nat.le_of_ble_eq_true rfl, by decide, ?_⟩
  show mG ρ (mC ρ (d + 1)) 11 5 cX11_codeBehind (some .int) P 0 [(0, .ref qX), (1, .int x1), (2, .int x2)] [] (V s)
  unfold fX11_codeBehind at hf
  refine e_iconst (w := (nI 0)) dX11_codeBehind_0 (by decide) ?_
  refine e_istore_n dX11_codeBehind_1 rfl (by decide) hf (fun v1 hf => ?_)
  refine e_iconst (w := (nI 0)) dX11_codeBehind_2 (by decide) ?_
  refine e_istore dX11_codeBehind_3 (by decide) hf (fun v2 hf => ?_)
  refine e_pick [2, 3, 4, 1, 0] rfl ?_
  exact wX11_codeBehind_b5 hV hP mFu x1 x2 v1 v2 hf

theorem dX11_bring_0 : decode cX11_bring 0 = .ok (.aload_n 0, 1) := by decide +kernel
theorem dX11_bring_1 : decode cX11_bring 1 = .ok (.iload_n 1, 1) := by decide +kernel
theorem dX11_bring_2 : decode cX11_bring 2 = .ok (.i2l, 1) := by decide +kernel
theorem dX11_bring_3 : decode cX11_bring 3 = .ok (.invokevirtual 104, 3) := by decide +kernel
theorem dX11_bring_6 : decode cX11_bring 6 = .ok (.ifCond .eq 16, 3) := by decide +kernel
theorem dX11_bring_9 : decode cX11_bring 9 = .ok (.iload_n 2, 1) := by decide +kernel
theorem dX11_bring_10 : decode cX11_bring 10 = .ok (.i2l, 1) := by decide +kernel
theorem dX11_bring_11 : decode cX11_bring 11 = .ok (.invokestatic 121, 3) := by decide +kernel
theorem dX11_bring_14 : decode cX11_bring 14 = .ok (.ifCond .eq 8, 3) := by decide +kernel
theorem dX11_bring_17 : decode cX11_bring 17 = .ok (.iload_n 3, 1) := by decide +kernel
theorem dX11_bring_18 : decode cX11_bring 18 = .ok (.iconst (-1), 1) := by decide +kernel
theorem dX11_bring_19 : decode cX11_bring 19 = .ok (.if_icmp .ge 5, 3) := by decide +kernel
theorem dX11_bring_22 : decode cX11_bring 22 = .ok (.iconst (-1), 1) := by decide +kernel
theorem dX11_bring_23 : decode cX11_bring 23 = .ok (.ireturn, 1) := by decide +kernel
theorem dX11_bring_24 : decode cX11_bring 24 = .ok (.iconst 0, 1) := by decide +kernel
theorem dX11_bring_25 : decode cX11_bring 25 = .ok (.istore 4, 2) := by decide +kernel
theorem dX11_bring_27 : decode cX11_bring 27 = .ok (.iload 4, 2) := by decide +kernel
theorem dX11_bring_29 : decode cX11_bring 29 = .ok (.sipush 2197, 3) := by decide +kernel
theorem dX11_bring_32 : decode cX11_bring 32 = .ok (.if_icmp .ge 27, 3) := by decide +kernel
theorem dX11_bring_35 : decode cX11_bring 35 = .ok (.aload_n 0, 1) := by decide +kernel
theorem dX11_bring_36 : decode cX11_bring 36 = .ok (.getfield 46, 3) := by decide +kernel
theorem dX11_bring_39 : decode cX11_bring 39 = .ok (.iload 4, 2) := by decide +kernel
theorem dX11_bring_41 : decode cX11_bring 41 = .ok (.iload 4, 2) := by decide +kernel
theorem dX11_bring_43 : decode cX11_bring 43 = .ok (.iload_n 2, 1) := by decide +kernel
theorem dX11_bring_44 : decode cX11_bring 44 = .ok (.if_icmp .ne 7, 3) := by decide +kernel
theorem dX11_bring_47 : decode cX11_bring 47 = .ok (.iconst 0, 1) := by decide +kernel
theorem dX11_bring_48 : decode cX11_bring 48 = .ok (.goto 4, 3) := by decide +kernel
theorem dX11_bring_51 : decode cX11_bring 51 = .ok (.iconst (-1), 1) := by decide +kernel
theorem dX11_bring_52 : decode cX11_bring 52 = .ok (.iastore, 1) := by decide +kernel
theorem dX11_bring_53 : decode cX11_bring 53 = .ok (.iinc 4 1, 3) := by decide +kernel
theorem dX11_bring_56 : decode cX11_bring 56 = .ok (.goto (-29), 3) := by decide +kernel
theorem dX11_bring_59 : decode cX11_bring 59 = .ok (.iconst 1, 1) := by decide +kernel
theorem dX11_bring_60 : decode cX11_bring 60 = .ok (.istore 4, 2) := by decide +kernel
theorem dX11_bring_62 : decode cX11_bring 62 = .ok (.iconst 1, 1) := by decide +kernel
theorem dX11_bring_63 : decode cX11_bring 63 = .ok (.istore 5, 2) := by decide +kernel
theorem dX11_bring_65 : decode cX11_bring 65 = .ok (.iload 4, 2) := by decide +kernel
theorem dX11_bring_67 : decode cX11_bring 67 = .ok (.ifCond .eq 89, 3) := by decide +kernel
theorem dX11_bring_70 : decode cX11_bring 70 = .ok (.iconst 0, 1) := by decide +kernel
theorem dX11_bring_71 : decode cX11_bring 71 = .ok (.istore 4, 2) := by decide +kernel
theorem dX11_bring_73 : decode cX11_bring 73 = .ok (.iconst 0, 1) := by decide +kernel
theorem dX11_bring_74 : decode cX11_bring 74 = .ok (.istore 6, 2) := by decide +kernel
theorem dX11_bring_76 : decode cX11_bring 76 = .ok (.iload 6, 2) := by decide +kernel
theorem dX11_bring_78 : decode cX11_bring 78 = .ok (.sipush 2197, 3) := by decide +kernel
theorem dX11_bring_81 : decode cX11_bring 81 = .ok (.if_icmp .ge 69, 3) := by decide +kernel
theorem dX11_bring_84 : decode cX11_bring 84 = .ok (.iconst 0, 1) := by decide +kernel
theorem dX11_bring_85 : decode cX11_bring 85 = .ok (.istore 7, 2) := by decide +kernel
theorem dX11_bring_87 : decode cX11_bring 87 = .ok (.iload 7, 2) := by decide +kernel
theorem dX11_bring_89 : decode cX11_bring 89 = .ok (.aload_n 0, 1) := by decide +kernel
theorem dX11_bring_90 : decode cX11_bring 90 = .ok (.getfield 97, 3) := by decide +kernel
theorem dX11_bring_93 : decode cX11_bring 93 = .ok (.if_icmp .ge 51, 3) := by decide +kernel
theorem dX11_bring_96 : decode cX11_bring 96 = .ok (.aload_n 0, 1) := by decide +kernel
theorem dX11_bring_97 : decode cX11_bring 97 = .ok (.getfield 46, 3) := by decide +kernel
theorem dX11_bring_100 : decode cX11_bring 100 = .ok (.iload 6, 2) := by decide +kernel
theorem dX11_bring_102 : decode cX11_bring 102 = .ok (.iaload, 1) := by decide +kernel
theorem dX11_bring_103 : decode cX11_bring 103 = .ok (.ifCond .ge 41, 3) := by decide +kernel
theorem dX11_bring_106 : decode cX11_bring 106 = .ok (.aload_n 0, 1) := by decide +kernel
theorem dX11_bring_107 : decode cX11_bring 107 = .ok (.getfield 46, 3) := by decide +kernel
theorem dX11_bring_110 : decode cX11_bring 110 = .ok (.aload_n 0, 1) := by decide +kernel
theorem dX11_bring_111 : decode cX11_bring 111 = .ok (.iload 6, 2) := by decide +kernel
theorem dX11_bring_113 : decode cX11_bring 113 = .ok (.iload 7, 2) := by decide +kernel
theorem dX11_bring_115 : decode cX11_bring 115 = .ok (.invokevirtual 245, 3) := by decide +kernel
theorem dX11_bring_118 : decode cX11_bring 118 = .ok (.iaload, 1) := by decide +kernel
theorem dX11_bring_119 : decode cX11_bring 119 = .ok (.iload 5, 2) := by decide +kernel
theorem dX11_bring_121 : decode cX11_bring 121 = .ok (.iconst 1, 1) := by decide +kernel
theorem dX11_bring_122 : decode cX11_bring 122 = .ok (.isub, 1) := by decide +kernel
theorem dX11_bring_123 : decode cX11_bring 123 = .ok (.if_icmp .ne 15, 3) := by decide +kernel
theorem dX11_bring_126 : decode cX11_bring 126 = .ok (.aload_n 0, 1) := by decide +kernel
theorem dX11_bring_127 : decode cX11_bring 127 = .ok (.getfield 46, 3) := by decide +kernel
theorem dX11_bring_130 : decode cX11_bring 130 = .ok (.iload 6, 2) := by decide +kernel
theorem dX11_bring_132 : decode cX11_bring 132 = .ok (.iload 5, 2) := by decide +kernel
theorem dX11_bring_134 : decode cX11_bring 134 = .ok (.iastore, 1) := by decide +kernel
theorem dX11_bring_135 : decode cX11_bring 135 = .ok (.iconst 1, 1) := by decide +kernel
theorem dX11_bring_136 : decode cX11_bring 136 = .ok (.istore 4, 2) := by decide +kernel
theorem dX11_bring_138 : decode cX11_bring 138 = .ok (.iinc 7 1, 3) := by decide +kernel
theorem dX11_bring_141 : decode cX11_bring 141 = .ok (.goto (-54), 3) := by decide +kernel
theorem dX11_bring_144 : decode cX11_bring 144 = .ok (.iinc 6 1, 3) := by decide +kernel
theorem dX11_bring_147 : decode cX11_bring 147 = .ok (.goto (-71), 3) := by decide +kernel
theorem dX11_bring_150 : decode cX11_bring 150 = .ok (.iinc 5 1, 3) := by decide +kernel
theorem dX11_bring_153 : decode cX11_bring 153 = .ok (.goto (-88), 3) := by decide +kernel
theorem dX11_bring_156 : decode cX11_bring 156 = .ok (.sipush 169, 3) := by decide +kernel
theorem dX11_bring_159 : decode cX11_bring 159 = .ok (.aload_n 0, 1) := by decide +kernel
theorem dX11_bring_160 : decode cX11_bring 160 = .ok (.getfield 9, 3) := by decide +kernel
theorem dX11_bring_163 : decode cX11_bring 163 = .ok (.iconst 3, 1) := by decide +kernel
theorem dX11_bring_164 : decode cX11_bring 164 = .ok (.iload_n 1, 1) := by decide +kernel
theorem dX11_bring_165 : decode cX11_bring 165 = .ok (.imul, 1) := by decide +kernel
theorem dX11_bring_166 : decode cX11_bring 166 = .ok (.iaload, 1) := by decide +kernel
theorem dX11_bring_167 : decode cX11_bring 167 = .ok (.imul, 1) := by decide +kernel
theorem dX11_bring_168 : decode cX11_bring 168 = .ok (.bipush 13, 2) := by decide +kernel
theorem dX11_bring_170 : decode cX11_bring 170 = .ok (.aload_n 0, 1) := by decide +kernel
theorem dX11_bring_171 : decode cX11_bring 171 = .ok (.getfield 9, 3) := by decide +kernel
theorem dX11_bring_174 : decode cX11_bring 174 = .ok (.iconst 3, 1) := by decide +kernel
theorem dX11_bring_175 : decode cX11_bring 175 = .ok (.iload_n 1, 1) := by decide +kernel
theorem dX11_bring_176 : decode cX11_bring 176 = .ok (.imul, 1) := by decide +kernel
theorem dX11_bring_177 : decode cX11_bring 177 = .ok (.iconst 1, 1) := by decide +kernel
theorem dX11_bring_178 : decode cX11_bring 178 = .ok (.iadd, 1) := by decide +kernel
theorem dX11_bring_179 : decode cX11_bring 179 = .ok (.iaload, 1) := by decide +kernel
theorem dX11_bring_180 : decode cX11_bring 180 = .ok (.imul, 1) := by decide +kernel
theorem dX11_bring_181 : decode cX11_bring 181 = .ok (.iadd, 1) := by decide +kernel
theorem dX11_bring_182 : decode cX11_bring 182 = .ok (.aload_n 0, 1) := by decide +kernel
theorem dX11_bring_183 : decode cX11_bring 183 = .ok (.getfield 9, 3) := by decide +kernel
theorem dX11_bring_186 : decode cX11_bring 186 = .ok (.iconst 3, 1) := by decide +kernel
theorem dX11_bring_187 : decode cX11_bring 187 = .ok (.iload_n 1, 1) := by decide +kernel
theorem dX11_bring_188 : decode cX11_bring 188 = .ok (.imul, 1) := by decide +kernel
theorem dX11_bring_189 : decode cX11_bring 189 = .ok (.iconst 2, 1) := by decide +kernel
theorem dX11_bring_190 : decode cX11_bring 190 = .ok (.iadd, 1) := by decide +kernel
theorem dX11_bring_191 : decode cX11_bring 191 = .ok (.iaload, 1) := by decide +kernel
theorem dX11_bring_192 : decode cX11_bring 192 = .ok (.iadd, 1) := by decide +kernel
theorem dX11_bring_193 : decode cX11_bring 193 = .ok (.istore 5, 2) := by decide +kernel
theorem dX11_bring_195 : decode cX11_bring 195 = .ok (.aload_n 0, 1) := by decide +kernel
theorem dX11_bring_196 : decode cX11_bring 196 = .ok (.getfield 46, 3) := by decide +kernel
theorem dX11_bring_199 : decode cX11_bring 199 = .ok (.iload 5, 2) := by decide +kernel
theorem dX11_bring_201 : decode cX11_bring 201 = .ok (.iaload, 1) := by decide +kernel
theorem dX11_bring_202 : decode cX11_bring 202 = .ok (.istore 6, 2) := by decide +kernel
theorem dX11_bring_204 : decode cX11_bring 204 = .ok (.iload 6, 2) := by decide +kernel
theorem dX11_bring_206 : decode cX11_bring 206 = .ok (.ifCond .ge 6, 3) := by decide +kernel
theorem dX11_bring_209 : decode cX11_bring 209 = .ok (.bipush (-2), 2) := by decide +kernel
theorem dX11_bring_211 : decode cX11_bring 211 = .ok (.ireturn, 1) := by decide +kernel
theorem dX11_bring_212 : decode cX11_bring 212 = .ok (.iload_n 3, 1) := by decide +kernel
theorem dX11_bring_213 : decode cX11_bring 213 = .ok (.iconst (-1), 1) := by decide +kernel
theorem dX11_bring_214 : decode cX11_bring 214 = .ok (.if_icmp .ne 6, 3) := by decide +kernel
theorem dX11_bring_217 : decode cX11_bring 217 = .ok (.iload 6, 2) := by decide +kernel
theorem dX11_bring_219 : decode cX11_bring 219 = .ok (.ireturn, 1) := by decide +kernel
theorem dX11_bring_220 : decode cX11_bring 220 = .ok (.iload_n 3, 1) := by decide +kernel
theorem dX11_bring_221 : decode cX11_bring 221 = .ok (.iload 6, 2) := by decide +kernel
theorem dX11_bring_223 : decode cX11_bring 223 = .ok (.if_icmp .lt 6, 3) := by decide +kernel
theorem dX11_bring_226 : decode cX11_bring 226 = .ok (.bipush (-2), 2) := by decide +kernel
theorem dX11_bring_228 : decode cX11_bring 228 = .ok (.ireturn, 1) := by decide +kernel
theorem dX11_bring_229 : decode cX11_bring 229 = .ok (.iconst 0, 1) := by decide +kernel
theorem dX11_bring_230 : decode cX11_bring 230 = .ok (.istore 7, 2) := by decide +kernel
theorem dX11_bring_232 : decode cX11_bring 232 = .ok (.iconst 0, 1) := by decide +kernel
theorem dX11_bring_233 : decode cX11_bring 233 = .ok (.istore 8, 2) := by decide +kernel
theorem dX11_bring_235 : decode cX11_bring 235 = .ok (.iload 8, 2) := by decide +kernel
theorem dX11_bring_237 : decode cX11_bring 237 = .ok (.iload_n 3, 1) := by decide +kernel
theorem dX11_bring_238 : decode cX11_bring 238 = .ok (.if_icmp .gt 51, 3) := by decide +kernel
theorem dX11_bring_241 : decode cX11_bring 241 = .ok (.iconst 0, 1) := by decide +kernel
theorem dX11_bring_242 : decode cX11_bring 242 = .ok (.istore 7, 2) := by decide +kernel
theorem dX11_bring_244 : decode cX11_bring 244 = .ok (.aload_n 0, 1) := by decide +kernel
theorem dX11_bring_245 : decode cX11_bring 245 = .ok (.getfield 46, 3) := by decide +kernel
theorem dX11_bring_248 : decode cX11_bring 248 = .ok (.aload_n 0, 1) := by decide +kernel
theorem dX11_bring_249 : decode cX11_bring 249 = .ok (.iload 5, 2) := by decide +kernel
theorem dX11_bring_251 : decode cX11_bring 251 = .ok (.iload 7, 2) := by decide +kernel
theorem dX11_bring_253 : decode cX11_bring 253 = .ok (.invokevirtual 245, 3) := by decide +kernel
theorem dX11_bring_256 : decode cX11_bring 256 = .ok (.iaload, 1) := by decide +kernel
theorem dX11_bring_257 : decode cX11_bring 257 = .ok (.iload 6, 2) := by decide +kernel
theorem dX11_bring_259 : decode cX11_bring 259 = .ok (.iconst 1, 1) := by decide +kernel
theorem dX11_bring_260 : decode cX11_bring 260 = .ok (.isub, 1) := by decide +kernel
theorem dX11_bring_261 : decode cX11_bring 261 = .ok (.iload 8, 2) := by decide +kernel
theorem dX11_bring_263 : decode cX11_bring 263 = .ok (.isub, 1) := by decide +kernel
theorem dX11_bring_264 : decode cX11_bring 264 = .ok (.if_icmp .eq 9, 3) := by decide +kernel
theorem dX11_bring_267 : decode cX11_bring 267 = .ok (.iinc 7 1, 3) := by decide +kernel
theorem dX11_bring_270 : decode cX11_bring 270 = .ok (.goto (-26), 3) := by decide +kernel
theorem dX11_bring_273 : decode cX11_bring 273 = .ok (.aload_n 0, 1) := by decide +kernel
theorem dX11_bring_274 : decode cX11_bring 274 = .ok (.iload 5, 2) := by decide +kernel
theorem dX11_bring_276 : decode cX11_bring 276 = .ok (.iload 7, 2) := by decide +kernel
theorem dX11_bring_278 : decode cX11_bring 278 = .ok (.invokevirtual 245, 3) := by decide +kernel
theorem dX11_bring_281 : decode cX11_bring 281 = .ok (.istore 5, 2) := by decide +kernel
theorem dX11_bring_283 : decode cX11_bring 283 = .ok (.iinc 8 1, 3) := by decide +kernel
theorem dX11_bring_286 : decode cX11_bring 286 = .ok (.goto (-51), 3) := by decide +kernel
theorem dX11_bring_289 : decode cX11_bring 289 = .ok (.iload 7, 2) := by decide +kernel
theorem dX11_bring_291 : decode cX11_bring 291 = .ok (.ireturn, 1) := by decide +kernel
def fX11_bring_b244 (K235 : Int32 → Int32 → Int32 → Int32 → Int32 → mS → Option (Int32 × mS)) : Nat → Int32 → Int32 → Int32 → Int32 → Int32 → mS → Option (Int32 × mS)
  | 0, _, _, _, _, _, _ => none
  | k + 1, y3, y5, y6, y7, y8, s =>
    bO (fX11_codeBehind y5 y7 s) fun r15 =>
    ldA s aX_lettersTo 2197 r15 fun v16 =>
    if v16 = ((y6 - (nI 1)) - y8) then
      bO (fX11_codeBehind y5 y7 s) fun r17 =>
      bnd r17 fun v18 =>
      bnd (y8 + (nI 1)) fun v19 =>
      K235 y3 v18 y6 y7 v19 s
    else
      bnd (y7 + (nI 1)) fun v20 =>
      fX11_bring_b244 K235 k y3 y5 y6 v20 y8 s

def fX11_bring_b235 : Nat → Int32 → Int32 → Int32 → Int32 → Int32 → mS → Option (Int32 × mS)
  | 0, _, _, _, _, _, _ => none
  | k + 1, y3, y5, y6, y7, y8, s =>
    if y3 < y8 then
      some (y7, s)
    else
      bnd (nI 0) fun v14 =>
      fX11_bring_b244 (fun u0 u1 u2 u3 u4 u5 => fX11_bring_b235 k u0 u1 u2 u3 u4 u5) mFu y3 y5 y6 v14 y8 s

def fX11_bring_b144 (K65 : Int32 → Int32 → Int32 → Int32 → mS → Option (Int32 × mS)) (K76 : Int32 → Int32 → Int32 → Int32 → Int32 → mS → Option (Int32 × mS)) (y1 : Int32) (y3 : Int32) (y4 : Int32) (y5 : Int32) (y6 : Int32) (s : mS) : Option (Int32 × mS) :=
  bnd (y6 + (nI 1)) fun v25 =>
  K76 y1 y3 y4 y5 v25 s

def fX11_bring_b138 (K65 : Int32 → Int32 → Int32 → Int32 → mS → Option (Int32 × mS)) (K76 : Int32 → Int32 → Int32 → Int32 → Int32 → mS → Option (Int32 × mS)) (K87 : Int32 → Int32 → Int32 → Int32 → Int32 → Int32 → mS → Option (Int32 × mS)) (y1 : Int32) (y3 : Int32) (y4 : Int32) (y5 : Int32) (y6 : Int32) (y7 : Int32) (s : mS) : Option (Int32 × mS) :=
  bnd (y7 + (nI 1)) fun v29 =>
  K87 y1 y3 y4 y5 y6 v29 s

def fX11_bring_b87 (K65 : Int32 → Int32 → Int32 → Int32 → mS → Option (Int32 × mS)) (K76 : Int32 → Int32 → Int32 → Int32 → Int32 → mS → Option (Int32 × mS)) : Nat → Int32 → Int32 → Int32 → Int32 → Int32 → Int32 → mS → Option (Int32 × mS)
  | 0, _, _, _, _, _, _, _ => none
  | k + 1, y1, y3, y4, y5, y6, y7, s =>
    if (gI s iX_writers) ≤ y7 then
      fX11_bring_b144 K65 K76 y1 y3 y4 y5 y6 s
    else
      ldA s aX_lettersTo 2197 y6 fun v26 =>
      if 0 ≤ v26 then
        fX11_bring_b144 K65 K76 y1 y3 y4 y5 y6 s
      else
        bO (fX11_codeBehind y6 y7 s) fun r27 =>
        ldA s aX_lettersTo 2197 r27 fun v28 =>
        if v28 = (y5 - (nI 1)) then
          stA s aX_lettersTo 2197 y6 y5 fun s30 =>
          bnd (nI 1) fun v31 =>
          fX11_bring_b138 K65 K76 (fun u0 u1 u2 u3 u4 u5 u6 => fX11_bring_b87 K65 K76 k u0 u1 u2 u3 u4 u5 u6) y1 y3 v31 y5 y6 y7 s30
        else
          fX11_bring_b138 K65 K76 (fun u0 u1 u2 u3 u4 u5 u6 => fX11_bring_b87 K65 K76 k u0 u1 u2 u3 u4 u5 u6) y1 y3 y4 y5 y6 y7 s

def fX11_bring_b76 (K65 : Int32 → Int32 → Int32 → Int32 → mS → Option (Int32 × mS)) : Nat → Int32 → Int32 → Int32 → Int32 → Int32 → mS → Option (Int32 × mS)
  | 0, _, _, _, _, _, _ => none
  | k + 1, y1, y3, y4, y5, y6, s =>
    if (nI 2197) ≤ y6 then
      bnd (y5 + (nI 1)) fun v23 =>
      K65 y1 y3 y4 v23 s
    else
      bnd (nI 0) fun v24 =>
      fX11_bring_b87 K65 (fun u0 u1 u2 u3 u4 u5 => fX11_bring_b76 K65 k u0 u1 u2 u3 u4 u5) mFu y1 y3 y4 y5 y6 v24 s

def fX11_bring_b65 : Nat → Int32 → Int32 → Int32 → Int32 → mS → Option (Int32 × mS)
  | 0, _, _, _, _, _ => none
  | k + 1, y1, y3, y4, y5, s =>
    if y4 = 0 then
      ldA s aX_may 65 ((nI 3) * y1) fun v6 =>
      ldA s aX_may 65 (((nI 3) * y1) + (nI 1)) fun v7 =>
      ldA s aX_may 65 (((nI 3) * y1) + (nI 2)) fun v8 =>
      bnd ((((nI 169) * v6) + ((nI 13) * v7)) + v8) fun v9 =>
      ldA s aX_lettersTo 2197 v9 fun v10 =>
      bnd v10 fun v11 =>
      if 0 ≤ v11 then
        if y3 = (-1) then
          some (v11, s)
        else
          if y3 < v11 then
            bnd (nI 0) fun v12 =>
            bnd (nI 0) fun v13 =>
            fX11_bring_b235 mFu y3 v9 v11 v12 v13 s
          else
            some ((-2), s)
      else
        some ((-2), s)
    else
      bnd (nI 0) fun v21 =>
      bnd (nI 0) fun v22 =>
      fX11_bring_b76 (fun u0 u1 u2 u3 u4 => fX11_bring_b65 k u0 u1 u2 u3 u4) mFu y1 y3 v21 y5 v22 s

def fX11_bring_b52 (K27 : Int32 → Int32 → Int32 → Int32 → mS → Option (Int32 × mS)) (y1 : Int32) (y2 : Int32) (y3 : Int32) (y4 : Int32) (z0 : Int32) (z1 : Int32) (s : mS) : Option (Int32 × mS) :=
  stA s aX_lettersTo 2197 z1 z0 fun s32 =>
  bnd (y4 + (nI 1)) fun v33 =>
  K27 y1 y2 y3 v33 s32

def fX11_bring_b27 : Nat → Int32 → Int32 → Int32 → Int32 → mS → Option (Int32 × mS)
  | 0, _, _, _, _, _ => none
  | k + 1, y1, y2, y3, y4, s =>
    if (nI 2197) ≤ y4 then
      bnd (nI 1) fun v4 =>
      bnd (nI 1) fun v5 =>
      fX11_bring_b65 mFu y1 y3 v4 v5 s
    else
      if y4 = y2 then
        fX11_bring_b52 (fun u0 u1 u2 u3 u4 => fX11_bring_b27 k u0 u1 u2 u3 u4) y1 y2 y3 y4 (nI 0) y4 s
      else
        fX11_bring_b52 (fun u0 u1 u2 u3 u4 => fX11_bring_b27 k u0 u1 u2 u3 u4) y1 y2 y3 y4 (-1) y4 s

def fX11_bring (x1 : Int32) (x2 : Int32) (x3 : Int32) (s : mS) : Option (Int32 × mS) :=
  bO (fX11_isMachine (Int32.toInt64 x1) s) fun r1 =>
  if r1 = 0 then
    some ((-1), s)
  else
    bO (fX11_isCode (Int32.toInt64 x2) s) fun r2 =>
    if r2 = 0 then
      some ((-1), s)
    else
      if (-1) ≤ x3 then
        bnd (nI 0) fun v3 =>
        fX11_bring_b27 mFu x1 x2 x3 v3 s
      else
        some ((-1), s)

set_option maxRecDepth 20000 in
theorem wX11_bring_b244 {ρ : mRo} {d : Nat} {P : mPo} {V : mS → List mE} (hV : mView LX V)  {res : (Int32 × mS)} {K235 : Int32 → Int32 → Int32 → Int32 → Int32 → mS → Option (Int32 × mS)} (hK235 : ∀ (y3 : Int32) (y5 : Int32) (y6 : Int32) (y7 : Int32) (y8 : Int32) (s : mS), K235 y3 y5 y6 y7 y8 s = some res → mG ρ (mC ρ (d + 2)) 11 9 cX11_bring (some .int) P 235 [(0, .ref qX), (3, .int y3), (5, .int y5), (6, .int y6), (7, .int y7), (8, .int y8)] [] (V s)) (hP : P (some (.int res.1)) (V res.2)) : ∀ (k : Nat) (y3 : Int32) (y5 : Int32) (y6 : Int32) (y7 : Int32) (y8 : Int32) (s : mS), fX11_bring_b244 K235 k y3 y5 y6 y7 y8 s = some res → mG ρ (mC ρ (d + 2)) 11 9 cX11_bring (some .int) P 244 [(0, .ref qX), (3, .int y3), (5, .int y5), (6, .int y6), (7, .int y7), (8, .int y8)] [] (V s) := by
  intro k
  induction k with
  | zero => intro y3 y5 y6 y7 y8 s hf; rw [fX11_bring_b244] at hf; cases hf
  | succ k ih =>
    intro y3 y5 y6 y7 y8 s hf
    rw [fX11_bring_b244] at hf
    refine e_aload_n 0 dX11_bring_244 rfl rfl ?_
    refine e_getr hV dX11_bring_245 rfl lx_X rfl ?_
    refine e_aload_n 0 dX11_bring_248 rfl rfl ?_
    refine e_iload 2 dX11_bring_249 rfl ?_
    refine e_iload 4 dX11_bring_251 rfl ?_
    obtain ⟨r15, hg, hf⟩ := bO_some hf
    refine e_callV (as := [.int y5, .int y7]) (v := (some (.int r15))) (s' := s) hV dX11_bring_253 (Or.inl rfl) rfl rfl rfl rfl (Nat.le_of_ble_eq_true rfl) lx_X rfl rfl (fun Q hQ => tX11_codeBehind (d := d) hV  hg hQ) ?_
    refine e_iald hV dX11_bring_256 lx_X_lettersTo hf (fun v16 hf => ?_)
    refine e_iload 3 dX11_bring_257 rfl ?_
    refine e_iconst (w := (nI 1)) dX11_bring_259 (by decide) ?_
    refine e_isub dX11_bring_260 ?_
    refine e_iload 5 dX11_bring_261 rfl ?_
    refine e_isub dX11_bring_263 ?_
    refine e_icmp_eq 273 dX11_bring_264 (by decide) hf (fun hf => ?_) (fun hf => ?_)
    · refine e_aload_n 0 dX11_bring_273 rfl rfl ?_
      refine e_iload 2 dX11_bring_274 rfl ?_
      refine e_iload 4 dX11_bring_276 rfl ?_
      obtain ⟨r17, hg, hf⟩ := bO_some hf
      refine e_callV (as := [.int y5, .int y7]) (v := (some (.int r17))) (s' := s) hV dX11_bring_278 (Or.inl rfl) rfl rfl rfl rfl (Nat.le_of_ble_eq_true rfl) lx_X rfl rfl (fun Q hQ => tX11_codeBehind (d := d) hV  hg hQ) ?_
      refine e_istore dX11_bring_281 (by decide) hf (fun v18 hf => ?_)
      refine e_iinc 5 dX11_bring_283 (by decide) rfl hf (fun v19 hf => ?_)
      refine e_goto 235 dX11_bring_286 (by decide) ?_
      refine e_pick [2, 3, 1, 4, 5, 0] rfl ?_
      exact hK235 y3 v18 y6 y7 v19 s hf
    · refine e_iinc 4 dX11_bring_267 (by decide) rfl hf (fun v20 hf => ?_)
      refine e_goto 244 dX11_bring_270 (by decide) ?_
      refine e_pick [1, 2, 3, 4, 0, 5] rfl ?_
      exact ih y3 y5 y6 v20 y8 s hf
set_option maxRecDepth 20000 in
theorem wX11_bring_b235 {ρ : mRo} {d : Nat} {P : mPo} {V : mS → List mE} (hV : mView LX V)  {res : (Int32 × mS)} (hP : P (some (.int res.1)) (V res.2)) : ∀ (k : Nat) (y3 : Int32) (y5 : Int32) (y6 : Int32) (y7 : Int32) (y8 : Int32) (s : mS), fX11_bring_b235 k y3 y5 y6 y7 y8 s = some res → mG ρ (mC ρ (d + 2)) 11 9 cX11_bring (some .int) P 235 [(0, .ref qX), (3, .int y3), (5, .int y5), (6, .int y6), (7, .int y7), (8, .int y8)] [] (V s) := by
  intro k
  induction k with
  | zero => intro y3 y5 y6 y7 y8 s hf; rw [fX11_bring_b235] at hf; cases hf
  | succ k ih =>
    intro y3 y5 y6 y7 y8 s hf
    rw [fX11_bring_b235] at hf
    refine e_iload 5 dX11_bring_235 rfl ?_
    refine e_iload_n 1 dX11_bring_237 rfl rfl ?_
    refine e_icmp_gt 289 dX11_bring_238 (by decide) hf (fun hf => ?_) (fun hf => ?_)
    · refine e_iload 4 dX11_bring_289 rfl ?_
      obtain rfl := Option.some.inj hf
      exact e_iret dX11_bring_291 trivial hP
    · refine e_iconst (w := (nI 0)) dX11_bring_241 (by decide) ?_
      refine e_istore dX11_bring_242 (by decide) hf (fun v14 hf => ?_)
      refine e_pick [1, 2, 3, 4, 0, 5] rfl ?_
      exact wX11_bring_b244 hV ih hP mFu y3 y5 y6 v14 y8 s hf
set_option maxRecDepth 20000 in
theorem wX11_bring_b144 {ρ : mRo} {d : Nat} {P : mPo} {V : mS → List mE} (hV : mView LX V)  {res : (Int32 × mS)} {K65 : Int32 → Int32 → Int32 → Int32 → mS → Option (Int32 × mS)} (hK65 : ∀ (y1 : Int32) (y3 : Int32) (y4 : Int32) (y5 : Int32) (s : mS), K65 y1 y3 y4 y5 s = some res → mG ρ (mC ρ (d + 2)) 11 9 cX11_bring (some .int) P 65 [(0, .ref qX), (1, .int y1), (3, .int y3), (4, .int y4), (5, .int y5)] [] (V s)) {K76 : Int32 → Int32 → Int32 → Int32 → Int32 → mS → Option (Int32 × mS)} (hK76 : ∀ (y1 : Int32) (y3 : Int32) (y4 : Int32) (y5 : Int32) (y6 : Int32) (s : mS), K76 y1 y3 y4 y5 y6 s = some res → mG ρ (mC ρ (d + 2)) 11 9 cX11_bring (some .int) P 76 [(0, .ref qX), (1, .int y1), (3, .int y3), (4, .int y4), (5, .int y5), (6, .int y6)] [] (V s)) (hP : P (some (.int res.1)) (V res.2)) (y1 : Int32) (y3 : Int32) (y4 : Int32) (y5 : Int32) (y6 : Int32) (s : mS) (hf : fX11_bring_b144 K65 K76 y1 y3 y4 y5 y6 s = some res) : mG ρ (mC ρ (d + 2)) 11 9 cX11_bring (some .int) P 144 [(0, .ref qX), (1, .int y1), (3, .int y3), (4, .int y4), (5, .int y5), (6, .int y6)] [] (V s) := by
  unfold fX11_bring_b144 at hf
  refine e_iinc 5 dX11_bring_144 (by decide) rfl hf (fun v25 hf => ?_)
  refine e_goto 76 dX11_bring_147 (by decide) ?_
  refine e_pick [1, 2, 3, 4, 5, 0] rfl ?_
  exact hK76 y1 y3 y4 y5 v25 s hf
set_option maxRecDepth 20000 in
theorem wX11_bring_b138 {ρ : mRo} {d : Nat} {P : mPo} {V : mS → List mE} (hV : mView LX V)  {res : (Int32 × mS)} {K65 : Int32 → Int32 → Int32 → Int32 → mS → Option (Int32 × mS)} (hK65 : ∀ (y1 : Int32) (y3 : Int32) (y4 : Int32) (y5 : Int32) (s : mS), K65 y1 y3 y4 y5 s = some res → mG ρ (mC ρ (d + 2)) 11 9 cX11_bring (some .int) P 65 [(0, .ref qX), (1, .int y1), (3, .int y3), (4, .int y4), (5, .int y5)] [] (V s)) {K76 : Int32 → Int32 → Int32 → Int32 → Int32 → mS → Option (Int32 × mS)} (hK76 : ∀ (y1 : Int32) (y3 : Int32) (y4 : Int32) (y5 : Int32) (y6 : Int32) (s : mS), K76 y1 y3 y4 y5 y6 s = some res → mG ρ (mC ρ (d + 2)) 11 9 cX11_bring (some .int) P 76 [(0, .ref qX), (1, .int y1), (3, .int y3), (4, .int y4), (5, .int y5), (6, .int y6)] [] (V s)) {K87 : Int32 → Int32 → Int32 → Int32 → Int32 → Int32 → mS → Option (Int32 × mS)} (hK87 : ∀ (y1 : Int32) (y3 : Int32) (y4 : Int32) (y5 : Int32) (y6 : Int32) (y7 : Int32) (s : mS), K87 y1 y3 y4 y5 y6 y7 s = some res → mG ρ (mC ρ (d + 2)) 11 9 cX11_bring (some .int) P 87 [(0, .ref qX), (1, .int y1), (3, .int y3), (4, .int y4), (5, .int y5), (6, .int y6), (7, .int y7)] [] (V s)) (hP : P (some (.int res.1)) (V res.2)) (y1 : Int32) (y3 : Int32) (y4 : Int32) (y5 : Int32) (y6 : Int32) (y7 : Int32) (s : mS) (hf : fX11_bring_b138 K65 K76 K87 y1 y3 y4 y5 y6 y7 s = some res) : mG ρ (mC ρ (d + 2)) 11 9 cX11_bring (some .int) P 138 [(0, .ref qX), (1, .int y1), (3, .int y3), (4, .int y4), (5, .int y5), (6, .int y6), (7, .int y7)] [] (V s) := by
  unfold fX11_bring_b138 at hf
  refine e_iinc 6 dX11_bring_138 (by decide) rfl hf (fun v29 hf => ?_)
  refine e_goto 87 dX11_bring_141 (by decide) ?_
  refine e_pick [1, 2, 3, 4, 5, 6, 0] rfl ?_
  exact hK87 y1 y3 y4 y5 y6 v29 s hf
set_option maxRecDepth 20000 in
theorem wX11_bring_b87 {ρ : mRo} {d : Nat} {P : mPo} {V : mS → List mE} (hV : mView LX V)  {res : (Int32 × mS)} {K65 : Int32 → Int32 → Int32 → Int32 → mS → Option (Int32 × mS)} (hK65 : ∀ (y1 : Int32) (y3 : Int32) (y4 : Int32) (y5 : Int32) (s : mS), K65 y1 y3 y4 y5 s = some res → mG ρ (mC ρ (d + 2)) 11 9 cX11_bring (some .int) P 65 [(0, .ref qX), (1, .int y1), (3, .int y3), (4, .int y4), (5, .int y5)] [] (V s)) {K76 : Int32 → Int32 → Int32 → Int32 → Int32 → mS → Option (Int32 × mS)} (hK76 : ∀ (y1 : Int32) (y3 : Int32) (y4 : Int32) (y5 : Int32) (y6 : Int32) (s : mS), K76 y1 y3 y4 y5 y6 s = some res → mG ρ (mC ρ (d + 2)) 11 9 cX11_bring (some .int) P 76 [(0, .ref qX), (1, .int y1), (3, .int y3), (4, .int y4), (5, .int y5), (6, .int y6)] [] (V s)) (hP : P (some (.int res.1)) (V res.2)) : ∀ (k : Nat) (y1 : Int32) (y3 : Int32) (y4 : Int32) (y5 : Int32) (y6 : Int32) (y7 : Int32) (s : mS), fX11_bring_b87 K65 K76 k y1 y3 y4 y5 y6 y7 s = some res → mG ρ (mC ρ (d + 2)) 11 9 cX11_bring (some .int) P 87 [(0, .ref qX), (1, .int y1), (3, .int y3), (4, .int y4), (5, .int y5), (6, .int y6), (7, .int y7)] [] (V s) := by
  intro k
  induction k with
  | zero => intro y1 y3 y4 y5 y6 y7 s hf; rw [fX11_bring_b87] at hf; cases hf
  | succ k ih =>
    intro y1 y3 y4 y5 y6 y7 s hf
    rw [fX11_bring_b87] at hf
    refine e_iload 6 dX11_bring_87 rfl ?_
    refine e_aload_n 0 dX11_bring_89 rfl rfl ?_
    refine e_geti hV dX11_bring_90 rfl lx_X rfl ?_
    refine e_icmp_ge 144 dX11_bring_93 (by decide) hf (fun hf => ?_) (fun hf => ?_)
    · refine e_pick [0, 1, 2, 3, 4, 5] rfl ?_
      exact wX11_bring_b144 hV hK65 hK76 hP y1 y3 y4 y5 y6 s hf
    · refine e_aload_n 0 dX11_bring_96 rfl rfl ?_
      refine e_getr hV dX11_bring_97 rfl lx_X rfl ?_
      refine e_iload 5 dX11_bring_100 rfl ?_
      refine e_iald hV dX11_bring_102 lx_X_lettersTo hf (fun v26 hf => ?_)
      refine e_if_ge 144 dX11_bring_103 (by decide) hf (fun hf => ?_) (fun hf => ?_)
      · refine e_pick [0, 1, 2, 3, 4, 5] rfl ?_
        exact wX11_bring_b144 hV hK65 hK76 hP y1 y3 y4 y5 y6 s hf
      · refine e_aload_n 0 dX11_bring_106 rfl rfl ?_
        refine e_getr hV dX11_bring_107 rfl lx_X rfl ?_
        refine e_aload_n 0 dX11_bring_110 rfl rfl ?_
        refine e_iload 5 dX11_bring_111 rfl ?_
        refine e_iload 6 dX11_bring_113 rfl ?_
        obtain ⟨r27, hg, hf⟩ := bO_some hf
        refine e_callV (as := [.int y6, .int y7]) (v := (some (.int r27))) (s' := s) hV dX11_bring_115 (Or.inl rfl) rfl rfl rfl rfl (Nat.le_of_ble_eq_true rfl) lx_X rfl rfl (fun Q hQ => tX11_codeBehind (d := d) hV  hg hQ) ?_
        refine e_iald hV dX11_bring_118 lx_X_lettersTo hf (fun v28 hf => ?_)
        refine e_iload 4 dX11_bring_119 rfl ?_
        refine e_iconst (w := (nI 1)) dX11_bring_121 (by decide) ?_
        refine e_isub dX11_bring_122 ?_
        refine e_icmp_ne 138 dX11_bring_123 (by decide) hf (fun hf => ?_) (fun hf => ?_)
        · refine e_pick [0, 1, 2, 3, 4, 5, 6] rfl ?_
          exact wX11_bring_b138 hV hK65 hK76 ih hP y1 y3 y4 y5 y6 y7 s hf
        · refine e_aload_n 0 dX11_bring_126 rfl rfl ?_
          refine e_getr hV dX11_bring_127 rfl lx_X rfl ?_
          refine e_iload 5 dX11_bring_130 rfl ?_
          refine e_iload 4 dX11_bring_132 rfl ?_
          refine e_iast hV dX11_bring_134 lx_X_lettersTo hf (fun s30 hf => ?_)
          refine e_iconst (w := (nI 1)) dX11_bring_135 (by decide) ?_
          refine e_istore dX11_bring_136 (by decide) hf (fun v31 hf => ?_)
          refine e_pick [1, 2, 3, 0, 4, 5, 6] rfl ?_
          exact wX11_bring_b138 hV hK65 hK76 ih hP y1 y3 v31 y5 y6 y7 s30 hf
set_option maxRecDepth 20000 in
theorem wX11_bring_b76 {ρ : mRo} {d : Nat} {P : mPo} {V : mS → List mE} (hV : mView LX V)  {res : (Int32 × mS)} {K65 : Int32 → Int32 → Int32 → Int32 → mS → Option (Int32 × mS)} (hK65 : ∀ (y1 : Int32) (y3 : Int32) (y4 : Int32) (y5 : Int32) (s : mS), K65 y1 y3 y4 y5 s = some res → mG ρ (mC ρ (d + 2)) 11 9 cX11_bring (some .int) P 65 [(0, .ref qX), (1, .int y1), (3, .int y3), (4, .int y4), (5, .int y5)] [] (V s)) (hP : P (some (.int res.1)) (V res.2)) : ∀ (k : Nat) (y1 : Int32) (y3 : Int32) (y4 : Int32) (y5 : Int32) (y6 : Int32) (s : mS), fX11_bring_b76 K65 k y1 y3 y4 y5 y6 s = some res → mG ρ (mC ρ (d + 2)) 11 9 cX11_bring (some .int) P 76 [(0, .ref qX), (1, .int y1), (3, .int y3), (4, .int y4), (5, .int y5), (6, .int y6)] [] (V s) := by
  intro k
  induction k with
  | zero => intro y1 y3 y4 y5 y6 s hf; rw [fX11_bring_b76] at hf; cases hf
  | succ k ih =>
    intro y1 y3 y4 y5 y6 s hf
    rw [fX11_bring_b76] at hf
    refine e_iload 5 dX11_bring_76 rfl ?_
    refine e_sipush (w := (nI 2197)) dX11_bring_78 (by decide) ?_
    refine e_icmp_ge 150 dX11_bring_81 (by decide) hf (fun hf => ?_) (fun hf => ?_)
    · refine e_iinc 4 dX11_bring_150 (by decide) rfl hf (fun v23 hf => ?_)
      refine e_goto 65 dX11_bring_153 (by decide) ?_
      refine e_pick [1, 2, 3, 4, 0] rfl ?_
      exact hK65 y1 y3 y4 v23 s hf
    · refine e_iconst (w := (nI 0)) dX11_bring_84 (by decide) ?_
      refine e_istore dX11_bring_85 (by decide) hf (fun v24 hf => ?_)
      refine e_pick [1, 2, 3, 4, 5, 6, 0] rfl ?_
      exact wX11_bring_b87 hV hK65 ih hP mFu y1 y3 y4 y5 y6 v24 s hf
set_option maxRecDepth 20000 in
theorem wX11_bring_b65 {ρ : mRo} {d : Nat} {P : mPo} {V : mS → List mE} (hV : mView LX V)  {res : (Int32 × mS)} (hP : P (some (.int res.1)) (V res.2)) : ∀ (k : Nat) (y1 : Int32) (y3 : Int32) (y4 : Int32) (y5 : Int32) (s : mS), fX11_bring_b65 k y1 y3 y4 y5 s = some res → mG ρ (mC ρ (d + 2)) 11 9 cX11_bring (some .int) P 65 [(0, .ref qX), (1, .int y1), (3, .int y3), (4, .int y4), (5, .int y5)] [] (V s) := by
  intro k
  induction k with
  | zero => intro y1 y3 y4 y5 s hf; rw [fX11_bring_b65] at hf; cases hf
  | succ k ih =>
    intro y1 y3 y4 y5 s hf
    rw [fX11_bring_b65] at hf
    refine e_iload 3 dX11_bring_65 rfl ?_
    refine e_if_eq 156 dX11_bring_67 (by decide) hf (fun hf => ?_) (fun hf => ?_)
    · refine e_sipush (w := (nI 169)) dX11_bring_156 (by decide) ?_
      refine e_aload_n 0 dX11_bring_159 rfl rfl ?_
      refine e_getr hV dX11_bring_160 rfl lx_X rfl ?_
      refine e_iconst (w := (nI 3)) dX11_bring_163 (by decide) ?_
      refine e_iload_n 1 dX11_bring_164 rfl rfl ?_
      refine e_imul dX11_bring_165 ?_
      refine e_iald hV dX11_bring_166 lx_X_may hf (fun v6 hf => ?_)
      refine e_imul dX11_bring_167 ?_
      refine e_bipush (w := (nI 13)) dX11_bring_168 (by decide) ?_
      refine e_aload_n 0 dX11_bring_170 rfl rfl ?_
      refine e_getr hV dX11_bring_171 rfl lx_X rfl ?_
      refine e_iconst (w := (nI 3)) dX11_bring_174 (by decide) ?_
      refine e_iload_n 1 dX11_bring_175 rfl rfl ?_
      refine e_imul dX11_bring_176 ?_
      refine e_iconst (w := (nI 1)) dX11_bring_177 (by decide) ?_
      refine e_iadd dX11_bring_178 ?_
      refine e_iald hV dX11_bring_179 lx_X_may hf (fun v7 hf => ?_)
      refine e_imul dX11_bring_180 ?_
      refine e_iadd dX11_bring_181 ?_
      refine e_aload_n 0 dX11_bring_182 rfl rfl ?_
      refine e_getr hV dX11_bring_183 rfl lx_X rfl ?_
      refine e_iconst (w := (nI 3)) dX11_bring_186 (by decide) ?_
      refine e_iload_n 1 dX11_bring_187 rfl rfl ?_
      refine e_imul dX11_bring_188 ?_
      refine e_iconst (w := (nI 2)) dX11_bring_189 (by decide) ?_
      refine e_iadd dX11_bring_190 ?_
      refine e_iald hV dX11_bring_191 lx_X_may hf (fun v8 hf => ?_)
      refine e_iadd dX11_bring_192 ?_
      refine e_istore dX11_bring_193 (by decide) hf (fun v9 hf => ?_)
      refine e_aload_n 1 dX11_bring_195 rfl rfl ?_
      refine e_getr hV dX11_bring_196 rfl lx_X rfl ?_
      refine e_iload 0 dX11_bring_199 rfl ?_
      refine e_iald hV dX11_bring_201 lx_X_lettersTo hf (fun v10 hf => ?_)
      refine e_istore dX11_bring_202 (by decide) hf (fun v11 hf => ?_)
      refine e_iload 0 dX11_bring_204 rfl ?_
      refine e_if_ge 212 dX11_bring_206 (by decide) hf (fun hf => ?_) (fun hf => ?_)
      · refine e_iload_n 4 dX11_bring_212 rfl rfl ?_
        refine e_iconst (w := (-1)) dX11_bring_213 (by decide) ?_
        refine e_icmp_ne 220 dX11_bring_214 (by decide) hf (fun hf => ?_) (fun hf => ?_)
        · refine e_iload_n 4 dX11_bring_220 rfl rfl ?_
          refine e_iload 0 dX11_bring_221 rfl ?_
          refine e_icmp_lt 229 dX11_bring_223 (by decide) hf (fun hf => ?_) (fun hf => ?_)
          · refine e_iconst (w := (nI 0)) dX11_bring_229 (by decide) ?_
            refine e_istore dX11_bring_230 (by decide) hf (fun v12 hf => ?_)
            refine e_iconst (w := (nI 0)) dX11_bring_232 (by decide) ?_
            refine e_istore dX11_bring_233 (by decide) hf (fun v13 hf => ?_)
            refine e_pick [4, 6, 3, 2, 1, 0] rfl ?_
            exact wX11_bring_b235 hV hP mFu y3 v9 v11 v12 v13 s hf
          · refine e_bipush (w := (-2)) dX11_bring_226 (by decide) ?_
            obtain rfl := Option.some.inj hf
            exact e_iret dX11_bring_228 trivial hP
        · refine e_iload 0 dX11_bring_217 rfl ?_
          obtain rfl := Option.some.inj hf
          exact e_iret dX11_bring_219 trivial hP
      · refine e_bipush (w := (-2)) dX11_bring_209 (by decide) ?_
        obtain rfl := Option.some.inj hf
        exact e_iret dX11_bring_211 trivial hP
    · refine e_iconst (w := (nI 0)) dX11_bring_70 (by decide) ?_
      refine e_istore dX11_bring_71 (by decide) hf (fun v21 hf => ?_)
      refine e_iconst (w := (nI 0)) dX11_bring_73 (by decide) ?_
      refine e_istore dX11_bring_74 (by decide) hf (fun v22 hf => ?_)
      refine e_pick [2, 3, 4, 1, 5, 0] rfl ?_
      exact wX11_bring_b76 hV ih hP mFu y1 y3 v21 y5 v22 s hf
set_option maxRecDepth 20000 in
theorem wX11_bring_b52 {ρ : mRo} {d : Nat} {P : mPo} {V : mS → List mE} (hV : mView LX V)  {res : (Int32 × mS)} {K27 : Int32 → Int32 → Int32 → Int32 → mS → Option (Int32 × mS)} (hK27 : ∀ (y1 : Int32) (y2 : Int32) (y3 : Int32) (y4 : Int32) (s : mS), K27 y1 y2 y3 y4 s = some res → mG ρ (mC ρ (d + 2)) 11 9 cX11_bring (some .int) P 27 [(0, .ref qX), (1, .int y1), (2, .int y2), (3, .int y3), (4, .int y4)] [] (V s)) (hP : P (some (.int res.1)) (V res.2)) (y1 : Int32) (y2 : Int32) (y3 : Int32) (y4 : Int32) (z0 : Int32) (z1 : Int32) (s : mS) (hf : fX11_bring_b52 K27 y1 y2 y3 y4 z0 z1 s = some res) : mG ρ (mC ρ (d + 2)) 11 9 cX11_bring (some .int) P 52 [(0, .ref qX), (1, .int y1), (2, .int y2), (3, .int y3), (4, .int y4)] [.int z0, .int z1, .ref qX_lettersTo] (V s) := by
  unfold fX11_bring_b52 at hf
  refine e_iast hV dX11_bring_52 lx_X_lettersTo hf (fun s32 hf => ?_)
  refine e_iinc 4 dX11_bring_53 (by decide) rfl hf (fun v33 hf => ?_)
  refine e_goto 27 dX11_bring_56 (by decide) ?_
  refine e_pick [1, 2, 3, 4, 0] rfl ?_
  exact hK27 y1 y2 y3 v33 s32 hf
set_option maxRecDepth 20000 in
theorem wX11_bring_b27 {ρ : mRo} {d : Nat} {P : mPo} {V : mS → List mE} (hV : mView LX V)  {res : (Int32 × mS)} (hP : P (some (.int res.1)) (V res.2)) : ∀ (k : Nat) (y1 : Int32) (y2 : Int32) (y3 : Int32) (y4 : Int32) (s : mS), fX11_bring_b27 k y1 y2 y3 y4 s = some res → mG ρ (mC ρ (d + 2)) 11 9 cX11_bring (some .int) P 27 [(0, .ref qX), (1, .int y1), (2, .int y2), (3, .int y3), (4, .int y4)] [] (V s) := by
  intro k
  induction k with
  | zero => intro y1 y2 y3 y4 s hf; rw [fX11_bring_b27] at hf; cases hf
  | succ k ih =>
    intro y1 y2 y3 y4 s hf
    rw [fX11_bring_b27] at hf
    refine e_iload 4 dX11_bring_27 rfl ?_
    refine e_sipush (w := (nI 2197)) dX11_bring_29 (by decide) ?_
    refine e_icmp_ge 59 dX11_bring_32 (by decide) hf (fun hf => ?_) (fun hf => ?_)
    · refine e_iconst (w := (nI 1)) dX11_bring_59 (by decide) ?_
      refine e_istore dX11_bring_60 (by decide) hf (fun v4 hf => ?_)
      refine e_iconst (w := (nI 1)) dX11_bring_62 (by decide) ?_
      refine e_istore dX11_bring_63 (by decide) hf (fun v5 hf => ?_)
      refine e_pick [2, 3, 5, 1, 0] rfl ?_
      exact wX11_bring_b65 hV hP mFu y1 y3 v4 v5 s hf
    · refine e_aload_n 0 dX11_bring_35 rfl rfl ?_
      refine e_getr hV dX11_bring_36 rfl lx_X rfl ?_
      refine e_iload 4 dX11_bring_39 rfl ?_
      refine e_iload 4 dX11_bring_41 rfl ?_
      refine e_iload_n 2 dX11_bring_43 rfl rfl ?_
      refine e_icmp_ne 51 dX11_bring_44 (by decide) hf (fun hf => ?_) (fun hf => ?_)
      · refine e_iconst (w := (-1)) dX11_bring_51 (by decide) ?_
        refine e_pick [0, 1, 2, 3, 4] rfl ?_
        exact wX11_bring_b52 hV ih hP y1 y2 y3 y4 (-1) y4 s hf
      · refine e_iconst (w := (nI 0)) dX11_bring_47 (by decide) ?_
        refine e_goto 52 dX11_bring_48 (by decide) ?_
        refine e_pick [0, 1, 2, 3, 4] rfl ?_
        exact wX11_bring_b52 hV ih hP y1 y2 y3 y4 (nI 0) y4 s hf
set_option maxRecDepth 20000 in
theorem tX11_bring {ρ : mRo} {d : Nat} {P : mPo} {V : mS → List mE} (hV : mView LX V)  {x1 : Int32} {x2 : Int32} {x3 : Int32} {s : mS} {res : (Int32 × mS)} (hf : fX11_bring x1 x2 x3 s = some res) (hP : P (some (.int res.1)) (V res.2)) : mC ρ (d + 3) 188 [.ref qX, .int x1, .int x2, .int x3] (V s) P := by
  refine ⟨_, rfl, Nat.le_of_ble_eq_true rfl, by decide, ?_⟩
  show mG ρ (mC ρ (d + 2)) 11 9 cX11_bring (some .int) P 0 [(0, .ref qX), (1, .int x1), (2, .int x2), (3, .int x3)] [] (V s)
  unfold fX11_bring at hf
  refine e_aload_n 0 dX11_bring_0 rfl rfl ?_
  refine e_iload_n 1 dX11_bring_1 rfl rfl ?_
  refine e_i2l dX11_bring_2 ?_
  obtain ⟨r1, hg, hf⟩ := bO_some hf
  refine e_callV (as := [.long (Int32.toInt64 x1)]) (v := (some (.int r1))) (s' := s) hV dX11_bring_3 (Or.inl rfl) rfl rfl rfl rfl (Nat.le_of_ble_eq_true rfl) lx_X rfl rfl (fun Q hQ => tX11_isMachine (d := d) hV  hg hQ) ?_
  refine e_if_eq 22 dX11_bring_6 (by decide) hf (fun hf => ?_) (fun hf => ?_)
  · refine e_iconst (w := (-1)) dX11_bring_22 (by decide) ?_
    obtain rfl := Option.some.inj hf
    exact e_iret dX11_bring_23 trivial hP
  · refine e_iload_n 2 dX11_bring_9 rfl rfl ?_
    refine e_i2l dX11_bring_10 ?_
    obtain ⟨r2, hg, hf⟩ := bO_some hf
    refine e_callS (as := [.long (Int32.toInt64 x2)]) (v := (some (.int r2))) (s' := s) dX11_bring_11 rfl rfl rfl rfl rfl (Nat.le_of_ble_eq_true rfl) (fun Q hQ => tX11_isCode (d := d) hV  hg hQ) ?_
    refine e_if_eq 22 dX11_bring_14 (by decide) hf (fun hf => ?_) (fun hf => ?_)
    · refine e_iconst (w := (-1)) dX11_bring_22 (by decide) ?_
      obtain rfl := Option.some.inj hf
      exact e_iret dX11_bring_23 trivial hP
    · refine e_iload_n 3 dX11_bring_17 rfl rfl ?_
      refine e_iconst (w := (-1)) dX11_bring_18 (by decide) ?_
      refine e_icmp_ge 24 dX11_bring_19 (by decide) hf (fun hf => ?_) (fun hf => ?_)
      · refine e_iconst (w := (nI 0)) dX11_bring_24 (by decide) ?_
        refine e_istore dX11_bring_25 (by decide) hf (fun v3 hf => ?_)
        refine e_pick [1, 2, 3, 4, 0] rfl ?_
        exact wX11_bring_b27 hV hP mFu x1 x2 x3 v3 s hf
      · refine e_iconst (w := (-1)) dX11_bring_22 (by decide) ?_
        obtain rfl := Option.some.inj hf
        exact e_iret dX11_bring_23 trivial hP

theorem dX11_isSheet_0 : decode cX11_isSheet 0 = .ok (.iconst 0, 1) := by decide +kernel
theorem dX11_isSheet_1 : decode cX11_isSheet 1 = .ok (.istore 4, 2) := by decide +kernel
theorem dX11_isSheet_3 : decode cX11_isSheet 3 = .ok (.iload 4, 2) := by decide +kernel
theorem dX11_isSheet_5 : decode cX11_isSheet 5 = .ok (.iconst 3, 1) := by decide +kernel
theorem dX11_isSheet_6 : decode cX11_isSheet 6 = .ok (.if_icmp .ge 47, 3) := by decide +kernel
theorem dX11_isSheet_9 : decode cX11_isSheet 9 = .ok (.iload 4, 2) := by decide +kernel
theorem dX11_isSheet_11 : decode cX11_isSheet 11 = .ok (.aload_n 0, 1) := by decide +kernel
theorem dX11_isSheet_12 : decode cX11_isSheet 12 = .ok (.getfield 71, 3) := by decide +kernel
theorem dX11_isSheet_15 : decode cX11_isSheet 15 = .ok (.iload_n 1, 1) := by decide +kernel
theorem dX11_isSheet_16 : decode cX11_isSheet 16 = .ok (.iaload, 1) := by decide +kernel
theorem dX11_isSheet_17 : decode cX11_isSheet 17 = .ok (.if_icmp .ge 36, 3) := by decide +kernel
theorem dX11_isSheet_20 : decode cX11_isSheet 20 = .ok (.aload_n 0, 1) := by decide +kernel
theorem dX11_isSheet_21 : decode cX11_isSheet 21 = .ok (.getfield 74, 3) := by decide +kernel
theorem dX11_isSheet_24 : decode cX11_isSheet 24 = .ok (.bipush 60, 2) := by decide +kernel
theorem dX11_isSheet_26 : decode cX11_isSheet 26 = .ok (.iload_n 1, 1) := by decide +kernel
theorem dX11_isSheet_27 : decode cX11_isSheet 27 = .ok (.imul, 1) := by decide +kernel
theorem dX11_isSheet_28 : decode cX11_isSheet 28 = .ok (.iload 4, 2) := by decide +kernel
theorem dX11_isSheet_30 : decode cX11_isSheet 30 = .ok (.iadd, 1) := by decide +kernel
theorem dX11_isSheet_31 : decode cX11_isSheet 31 = .ok (.laload, 1) := by decide +kernel
theorem dX11_isSheet_32 : decode cX11_isSheet 32 = .ok (.aload_n 0, 1) := by decide +kernel
theorem dX11_isSheet_33 : decode cX11_isSheet 33 = .ok (.iload_n 2, 1) := by decide +kernel
theorem dX11_isSheet_34 : decode cX11_isSheet 34 = .ok (.iload_n 3, 1) := by decide +kernel
theorem dX11_isSheet_35 : decode cX11_isSheet 35 = .ok (.iload 4, 2) := by decide +kernel
theorem dX11_isSheet_37 : decode cX11_isSheet 37 = .ok (.invokevirtual 208, 3) := by decide +kernel
theorem dX11_isSheet_40 : decode cX11_isSheet 40 = .ok (.i2l, 1) := by decide +kernel
theorem dX11_isSheet_41 : decode cX11_isSheet 41 = .ok (.lcmp, 1) := by decide +kernel
theorem dX11_isSheet_42 : decode cX11_isSheet 42 = .ok (.ifCond .eq 5, 3) := by decide +kernel
theorem dX11_isSheet_45 : decode cX11_isSheet 45 = .ok (.iconst 0, 1) := by decide +kernel
theorem dX11_isSheet_46 : decode cX11_isSheet 46 = .ok (.ireturn, 1) := by decide +kernel
theorem dX11_isSheet_47 : decode cX11_isSheet 47 = .ok (.iinc 4 1, 3) := by decide +kernel
theorem dX11_isSheet_50 : decode cX11_isSheet 50 = .ok (.goto (-47), 3) := by decide +kernel
theorem dX11_isSheet_53 : decode cX11_isSheet 53 = .ok (.iconst 1, 1) := by decide +kernel
theorem dX11_isSheet_54 : decode cX11_isSheet 54 = .ok (.ireturn, 1) := by decide +kernel
def fX11_isSheet_b3 : Nat → Int32 → Int32 → Int32 → Int32 → mS → Option (Int32 × mS)
  | 0, _, _, _, _, _ => none
  | k + 1, y1, y2, y3, y4, s =>
    if (nI 3) ≤ y4 then
      some ((nI 1), s)
    else
      ldA s aX_many 6 y1 fun v2 =>
      if v2 ≤ y4 then
        some ((nI 1), s)
      else
        ldL s lX_items 360 (((nI 60) * y1) + y4) fun v3 =>
        bP (fX11_showsOf y2 y3 y4 s) fun r4 s5 =>
        if (lg_cmp v3 (Int32.toInt64 r4)) = 0 then
          bnd (y4 + (nI 1)) fun v6 =>
          fX11_isSheet_b3 k y1 y2 y3 v6 s5
        else
          some ((nI 0), s5)

def fX11_isSheet (x1 : Int32) (x2 : Int32) (x3 : Int32) (s : mS) : Option (Int32 × mS) :=
  bnd (nI 0) fun v1 =>
  fX11_isSheet_b3 mFu x1 x2 x3 v1 s

set_option maxRecDepth 20000 in
theorem wX11_isSheet_b3 {ρ : mRo} {d : Nat} {P : mPo} {V : mS → List mE} (hV : mView LX V)  {res : (Int32 × mS)} (hP : P (some (.int res.1)) (V res.2)) : ∀ (k : Nat) (y1 : Int32) (y2 : Int32) (y3 : Int32) (y4 : Int32) (s : mS), fX11_isSheet_b3 k y1 y2 y3 y4 s = some res → mG ρ (mC ρ (d + 65)) 11 5 cX11_isSheet (some .boolean) P 3 [(0, .ref qX), (1, .int y1), (2, .int y2), (3, .int y3), (4, .int y4)] [] (V s) := by
  intro k
  induction k with
  | zero => intro y1 y2 y3 y4 s hf; rw [fX11_isSheet_b3] at hf; cases hf
  | succ k ih =>
    intro y1 y2 y3 y4 s hf
    rw [fX11_isSheet_b3] at hf
    refine e_iload 4 dX11_isSheet_3 rfl ?_
    refine e_iconst (w := (nI 3)) dX11_isSheet_5 (by decide) ?_
    refine e_icmp_ge 53 dX11_isSheet_6 (by decide) hf (fun hf => ?_) (fun hf => ?_)
    · refine e_iconst (w := (nI 1)) dX11_isSheet_53 (by decide) ?_
      obtain rfl := Option.some.inj hf
      exact e_iret dX11_isSheet_54 (Or.inr rfl) hP
    · refine e_iload 4 dX11_isSheet_9 rfl ?_
      refine e_aload_n 0 dX11_isSheet_11 rfl rfl ?_
      refine e_getr hV dX11_isSheet_12 rfl lx_X rfl ?_
      refine e_iload_n 1 dX11_isSheet_15 rfl rfl ?_
      refine e_iald hV dX11_isSheet_16 lx_X_many hf (fun v2 hf => ?_)
      refine e_icmp_ge 53 dX11_isSheet_17 (by decide) hf (fun hf => ?_) (fun hf => ?_)
      · refine e_iconst (w := (nI 1)) dX11_isSheet_53 (by decide) ?_
        obtain rfl := Option.some.inj hf
        exact e_iret dX11_isSheet_54 (Or.inr rfl) hP
      · refine e_aload_n 0 dX11_isSheet_20 rfl rfl ?_
        refine e_getr hV dX11_isSheet_21 rfl lx_X rfl ?_
        refine e_bipush (w := (nI 60)) dX11_isSheet_24 (by decide) ?_
        refine e_iload_n 1 dX11_isSheet_26 rfl rfl ?_
        refine e_imul dX11_isSheet_27 ?_
        refine e_iload 4 dX11_isSheet_28 rfl ?_
        refine e_iadd dX11_isSheet_30 ?_
        refine e_lald hV dX11_isSheet_31 lx_X_items hf (fun v3 hf => ?_)
        refine e_aload_n 0 dX11_isSheet_32 rfl rfl ?_
        refine e_iload_n 2 dX11_isSheet_33 rfl rfl ?_
        refine e_iload_n 3 dX11_isSheet_34 rfl rfl ?_
        refine e_iload 4 dX11_isSheet_35 rfl ?_
        obtain ⟨r4, s5, hg, hf⟩ := bP_some hf
        refine e_callV (as := [.int y2, .int y3, .int y4]) (v := (some (.int r4))) (s' := s5) hV dX11_isSheet_37 (Or.inl rfl) rfl rfl rfl rfl (Nat.le_of_ble_eq_true rfl) lx_X rfl rfl (fun Q hQ => tX11_showsOf (d := d) hV  hg hQ) ?_
        refine e_i2l dX11_isSheet_40 ?_
        refine e_lcmp dX11_isSheet_41 ?_
        refine e_if_eq 47 dX11_isSheet_42 (by decide) hf (fun hf => ?_) (fun hf => ?_)
        · refine e_iinc 4 dX11_isSheet_47 (by decide) rfl hf (fun v6 hf => ?_)
          refine e_goto 3 dX11_isSheet_50 (by decide) ?_
          refine e_pick [1, 2, 3, 4, 0] rfl ?_
          exact ih y1 y2 y3 v6 s5 hf
        · refine e_iconst (w := (nI 0)) dX11_isSheet_45 (by decide) ?_
          obtain rfl := Option.some.inj hf
          exact e_iret dX11_isSheet_46 (Or.inl rfl) hP
set_option maxRecDepth 20000 in
theorem tX11_isSheet {ρ : mRo} {d : Nat} {P : mPo} {V : mS → List mE} (hV : mView LX V)  {x1 : Int32} {x2 : Int32} {x3 : Int32} {s : mS} {res : (Int32 × mS)} (hf : fX11_isSheet x1 x2 x3 s = some res) (hP : P (some (.int res.1)) (V res.2)) : mC ρ (d + 66) 189 [.ref qX, .int x1, .int x2, .int x3] (V s) P := by
  refine ⟨_, rfl, Nat.le_of_ble_eq_true rfl, by decide, ?_⟩
  show mG ρ (mC ρ (d + 65)) 11 5 cX11_isSheet (some .boolean) P 0 [(0, .ref qX), (1, .int x1), (2, .int x2), (3, .int x3)] [] (V s)
  unfold fX11_isSheet at hf
  refine e_iconst (w := (nI 0)) dX11_isSheet_0 (by decide) ?_
  refine e_istore dX11_isSheet_1 (by decide) hf (fun v1 hf => ?_)
  refine e_pick [1, 2, 3, 4, 0] rfl ?_
  exact wX11_isSheet_b3 hV hP mFu x1 x2 x3 v1 s hf

theorem dX11_whose_0 : decode cX11_whose 0 = .ok (.aload_n 0, 1) := by decide +kernel
theorem dX11_whose_1 : decode cX11_whose 1 = .ok (.iload_n 1, 1) := by decide +kernel
theorem dX11_whose_2 : decode cX11_whose 2 = .ok (.iconst 0, 1) := by decide +kernel
theorem dX11_whose_3 : decode cX11_whose 3 = .ok (.invokevirtual 227, 3) := by decide +kernel
theorem dX11_whose_6 : decode cX11_whose 6 = .ok (.iconst (-1), 1) := by decide +kernel
theorem dX11_whose_7 : decode cX11_whose 7 = .ok (.if_icmp .eq 12, 3) := by decide +kernel
theorem dX11_whose_10 : decode cX11_whose 10 = .ok (.aload_n 0, 1) := by decide +kernel
theorem dX11_whose_11 : decode cX11_whose 11 = .ok (.iload_n 2, 1) := by decide +kernel
theorem dX11_whose_12 : decode cX11_whose 12 = .ok (.i2l, 1) := by decide +kernel
theorem dX11_whose_13 : decode cX11_whose 13 = .ok (.invokevirtual 104, 3) := by decide +kernel
theorem dX11_whose_16 : decode cX11_whose 16 = .ok (.ifCond .ne 5, 3) := by decide +kernel
theorem dX11_whose_19 : decode cX11_whose 19 = .ok (.iconst (-1), 1) := by decide +kernel
theorem dX11_whose_20 : decode cX11_whose 20 = .ok (.ireturn, 1) := by decide +kernel
theorem dX11_whose_21 : decode cX11_whose 21 = .ok (.aload_n 0, 1) := by decide +kernel
theorem dX11_whose_22 : decode cX11_whose 22 = .ok (.iload_n 1, 1) := by decide +kernel
theorem dX11_whose_23 : decode cX11_whose 23 = .ok (.iconst 0, 1) := by decide +kernel
theorem dX11_whose_24 : decode cX11_whose 24 = .ok (.invokevirtual 227, 3) := by decide +kernel
theorem dX11_whose_27 : decode cX11_whose 27 = .ok (.ifCond .ge 10, 3) := by decide +kernel
theorem dX11_whose_30 : decode cX11_whose 30 = .ok (.aload_n 0, 1) := by decide +kernel
theorem dX11_whose_31 : decode cX11_whose 31 = .ok (.iload_n 1, 1) := by decide +kernel
theorem dX11_whose_32 : decode cX11_whose 32 = .ok (.iconst 0, 1) := by decide +kernel
theorem dX11_whose_33 : decode cX11_whose 33 = .ok (.invokevirtual 227, 3) := by decide +kernel
theorem dX11_whose_36 : decode cX11_whose 36 = .ok (.ireturn, 1) := by decide +kernel
theorem dX11_whose_37 : decode cX11_whose 37 = .ok (.aload_n 0, 1) := by decide +kernel
theorem dX11_whose_38 : decode cX11_whose 38 = .ok (.invokevirtual 217, 3) := by decide +kernel
theorem dX11_whose_41 : decode cX11_whose 41 = .ok (.iconst 0, 1) := by decide +kernel
theorem dX11_whose_42 : decode cX11_whose 42 = .ok (.istore_n 3, 1) := by decide +kernel
theorem dX11_whose_43 : decode cX11_whose 43 = .ok (.iconst 0, 1) := by decide +kernel
theorem dX11_whose_44 : decode cX11_whose 44 = .ok (.istore 4, 2) := by decide +kernel
theorem dX11_whose_46 : decode cX11_whose 46 = .ok (.iload 4, 2) := by decide +kernel
theorem dX11_whose_48 : decode cX11_whose 48 = .ok (.aload_n 0, 1) := by decide +kernel
theorem dX11_whose_49 : decode cX11_whose 49 = .ok (.getfield 97, 3) := by decide +kernel
theorem dX11_whose_52 : decode cX11_whose 52 = .ok (.if_icmp .ge 31, 3) := by decide +kernel
theorem dX11_whose_55 : decode cX11_whose 55 = .ok (.iload_n 3, 1) := by decide +kernel
theorem dX11_whose_56 : decode cX11_whose 56 = .ok (.aload_n 0, 1) := by decide +kernel
theorem dX11_whose_57 : decode cX11_whose 57 = .ok (.iload_n 1, 1) := by decide +kernel
theorem dX11_whose_58 : decode cX11_whose 58 = .ok (.iload 4, 2) := by decide +kernel
theorem dX11_whose_60 : decode cX11_whose 60 = .ok (.iload_n 2, 1) := by decide +kernel
theorem dX11_whose_61 : decode cX11_whose 61 = .ok (.invokevirtual 248, 3) := by decide +kernel
theorem dX11_whose_64 : decode cX11_whose 64 = .ok (.ifCond .eq 10, 3) := by decide +kernel
theorem dX11_whose_67 : decode cX11_whose 67 = .ok (.iconst 1, 1) := by decide +kernel
theorem dX11_whose_68 : decode cX11_whose 68 = .ok (.iload 4, 2) := by decide +kernel
theorem dX11_whose_70 : decode cX11_whose 70 = .ok (.ishl, 1) := by decide +kernel
theorem dX11_whose_71 : decode cX11_whose 71 = .ok (.goto 4, 3) := by decide +kernel
theorem dX11_whose_74 : decode cX11_whose 74 = .ok (.iconst 0, 1) := by decide +kernel
theorem dX11_whose_75 : decode cX11_whose 75 = .ok (.ior, 1) := by decide +kernel
theorem dX11_whose_76 : decode cX11_whose 76 = .ok (.istore_n 3, 1) := by decide +kernel
theorem dX11_whose_77 : decode cX11_whose 77 = .ok (.iinc 4 1, 3) := by decide +kernel
theorem dX11_whose_80 : decode cX11_whose 80 = .ok (.goto (-34), 3) := by decide +kernel
theorem dX11_whose_83 : decode cX11_whose 83 = .ok (.iload_n 3, 1) := by decide +kernel
theorem dX11_whose_84 : decode cX11_whose 84 = .ok (.ireturn, 1) := by decide +kernel
def fX11_whose_b75 (K46 : Int32 → Int32 → Int32 → Int32 → mS → Option (Int32 × mS)) (y1 : Int32) (y2 : Int32) (y4 : Int32) (z0 : Int32) (z1 : Int32) (s : mS) : Option (Int32 × mS) :=
  bnd (z1 ||| z0) fun v9 =>
  bnd (y4 + (nI 1)) fun v10 =>
  K46 y1 y2 v9 v10 s

def fX11_whose_b46 : Nat → Int32 → Int32 → Int32 → Int32 → mS → Option (Int32 × mS)
  | 0, _, _, _, _, _ => none
  | k + 1, y1, y2, y3, y4, s =>
    if (gI s iX_writers) ≤ y4 then
      some (y3, s)
    else
      bP (fX11_isSheet y1 y4 y2 s) fun r7 s8 =>
      if r7 = 0 then
        fX11_whose_b75 (fun u0 u1 u2 u3 u4 => fX11_whose_b46 k u0 u1 u2 u3 u4) y1 y2 y4 (nI 0) y3 s8
      else
        fX11_whose_b75 (fun u0 u1 u2 u3 u4 => fX11_whose_b46 k u0 u1 u2 u3 u4) y1 y2 y4 ((nI 1) <<< (y4 &&& 31)) y3 s8

def fX11_whose (x1 : Int32) (x2 : Int32) (s : mS) : Option (Int32 × mS) :=
  bO (fX11_rowIs x1 (nI 0) s) fun r1 =>
  if r1 = (-1) then
    some ((-1), s)
  else
    bO (fX11_isMachine (Int32.toInt64 x2) s) fun r2 =>
    if r2 = 0 then
      some ((-1), s)
    else
      bO (fX11_rowIs x1 (nI 0) s) fun r3 =>
      if 0 ≤ r3 then
        bO (fX11_begins s) fun s4 =>
        bnd (nI 0) fun v5 =>
        bnd (nI 0) fun v6 =>
        fX11_whose_b46 mFu x1 x2 v5 v6 s4
      else
        bO (fX11_rowIs x1 (nI 0) s) fun r11 =>
        some (r11, s)

set_option maxRecDepth 20000 in
theorem wX11_whose_b75 {ρ : mRo} {d : Nat} {P : mPo} {V : mS → List mE} (hV : mView LX V)  {res : (Int32 × mS)} {K46 : Int32 → Int32 → Int32 → Int32 → mS → Option (Int32 × mS)} (hK46 : ∀ (y1 : Int32) (y2 : Int32) (y3 : Int32) (y4 : Int32) (s : mS), K46 y1 y2 y3 y4 s = some res → mG ρ (mC ρ (d + 66)) 11 5 cX11_whose (some .int) P 46 [(0, .ref qX), (1, .int y1), (2, .int y2), (3, .int y3), (4, .int y4)] [] (V s)) (hP : P (some (.int res.1)) (V res.2)) (y1 : Int32) (y2 : Int32) (y4 : Int32) (z0 : Int32) (z1 : Int32) (s : mS) (hf : fX11_whose_b75 K46 y1 y2 y4 z0 z1 s = some res) : mG ρ (mC ρ (d + 66)) 11 5 cX11_whose (some .int) P 75 [(0, .ref qX), (1, .int y1), (2, .int y2), (4, .int y4)] [.int z0, .int z1] (V s) := by
  unfold fX11_whose_b75 at hf
  refine e_ior dX11_whose_75 ?_
  refine e_istore_n dX11_whose_76 rfl (by decide) hf (fun v9 hf => ?_)
  refine e_iinc 4 dX11_whose_77 (by decide) rfl hf (fun v10 hf => ?_)
  refine e_goto 46 dX11_whose_80 (by decide) ?_
  refine e_pick [2, 3, 4, 1, 0] rfl ?_
  exact hK46 y1 y2 v9 v10 s hf
set_option maxRecDepth 20000 in
theorem wX11_whose_b46 {ρ : mRo} {d : Nat} {P : mPo} {V : mS → List mE} (hV : mView LX V)  {res : (Int32 × mS)} (hP : P (some (.int res.1)) (V res.2)) : ∀ (k : Nat) (y1 : Int32) (y2 : Int32) (y3 : Int32) (y4 : Int32) (s : mS), fX11_whose_b46 k y1 y2 y3 y4 s = some res → mG ρ (mC ρ (d + 66)) 11 5 cX11_whose (some .int) P 46 [(0, .ref qX), (1, .int y1), (2, .int y2), (3, .int y3), (4, .int y4)] [] (V s) := by
  intro k
  induction k with
  | zero => intro y1 y2 y3 y4 s hf; rw [fX11_whose_b46] at hf; cases hf
  | succ k ih =>
    intro y1 y2 y3 y4 s hf
    rw [fX11_whose_b46] at hf
    refine e_iload 4 dX11_whose_46 rfl ?_
    refine e_aload_n 0 dX11_whose_48 rfl rfl ?_
    refine e_geti hV dX11_whose_49 rfl lx_X rfl ?_
    refine e_icmp_ge 83 dX11_whose_52 (by decide) hf (fun hf => ?_) (fun hf => ?_)
    · refine e_iload_n 3 dX11_whose_83 rfl rfl ?_
      obtain rfl := Option.some.inj hf
      exact e_iret dX11_whose_84 trivial hP
    · refine e_iload_n 3 dX11_whose_55 rfl rfl ?_
      refine e_aload_n 0 dX11_whose_56 rfl rfl ?_
      refine e_iload_n 1 dX11_whose_57 rfl rfl ?_
      refine e_iload 4 dX11_whose_58 rfl ?_
      refine e_iload_n 2 dX11_whose_60 rfl rfl ?_
      obtain ⟨r7, s8, hg, hf⟩ := bP_some hf
      refine e_callV (as := [.int y1, .int y4, .int y2]) (v := (some (.int r7))) (s' := s8) hV dX11_whose_61 (Or.inl rfl) rfl rfl rfl rfl (Nat.le_of_ble_eq_true rfl) lx_X rfl rfl (fun Q hQ => tX11_isSheet (d := d) hV  hg hQ) ?_
      refine e_if_eq 74 dX11_whose_64 (by decide) hf (fun hf => ?_) (fun hf => ?_)
      · refine e_iconst (w := (nI 0)) dX11_whose_74 (by decide) ?_
        refine e_pick [0, 1, 2, 4] rfl ?_
        exact wX11_whose_b75 hV ih hP y1 y2 y4 (nI 0) y3 s8 hf
      · refine e_iconst (w := (nI 1)) dX11_whose_67 (by decide) ?_
        refine e_iload 4 dX11_whose_68 rfl ?_
        refine e_ishl dX11_whose_70 ?_
        refine e_goto 75 dX11_whose_71 (by decide) ?_
        refine e_pick [0, 1, 2, 4] rfl ?_
        exact wX11_whose_b75 hV ih hP y1 y2 y4 ((nI 1) <<< (y4 &&& 31)) y3 s8 hf
set_option maxRecDepth 20000 in
theorem tX11_whose {ρ : mRo} {d : Nat} {P : mPo} {V : mS → List mE} (hV : mView LX V)  {x1 : Int32} {x2 : Int32} {s : mS} {res : (Int32 × mS)} (hf : fX11_whose x1 x2 s = some res) (hP : P (some (.int res.1)) (V res.2)) : mC ρ (d + 67) 190 [.ref qX, .int x1, .int x2] (V s) P := by
  refine ⟨_, rfl, Nat.le_of_ble_eq_true rfl, by decide, ?_⟩
  show mG ρ (mC ρ (d + 66)) 11 5 cX11_whose (some .int) P 0 [(0, .ref qX), (1, .int x1), (2, .int x2)] [] (V s)
  unfold fX11_whose at hf
  refine e_aload_n 0 dX11_whose_0 rfl rfl ?_
  refine e_iload_n 1 dX11_whose_1 rfl rfl ?_
  refine e_iconst (w := (nI 0)) dX11_whose_2 (by decide) ?_
  obtain ⟨r1, hg, hf⟩ := bO_some hf
  refine e_callV (as := [.int x1, .int (nI 0)]) (v := (some (.int r1))) (s' := s) hV dX11_whose_3 (Or.inl rfl) rfl rfl rfl rfl (Nat.le_of_ble_eq_true rfl) lx_X rfl rfl (fun Q hQ => tX11_rowIs (d := (d + 63)) hV  hg hQ) ?_
  refine e_iconst (w := (-1)) dX11_whose_6 (by decide) ?_
  refine e_icmp_eq 19 dX11_whose_7 (by decide) hf (fun hf => ?_) (fun hf => ?_)
  · refine e_iconst (w := (-1)) dX11_whose_19 (by decide) ?_
    obtain rfl := Option.some.inj hf
    exact e_iret dX11_whose_20 trivial hP
  · refine e_aload_n 0 dX11_whose_10 rfl rfl ?_
    refine e_iload_n 2 dX11_whose_11 rfl rfl ?_
    refine e_i2l dX11_whose_12 ?_
    obtain ⟨r2, hg, hf⟩ := bO_some hf
    refine e_callV (as := [.long (Int32.toInt64 x2)]) (v := (some (.int r2))) (s' := s) hV dX11_whose_13 (Or.inl rfl) rfl rfl rfl rfl (Nat.le_of_ble_eq_true rfl) lx_X rfl rfl (fun Q hQ => tX11_isMachine (d := (d + 64)) hV  hg hQ) ?_
    refine e_if_ne 21 dX11_whose_16 (by decide) hf (fun hf => ?_) (fun hf => ?_)
    · refine e_aload_n 0 dX11_whose_21 rfl rfl ?_
      refine e_iload_n 1 dX11_whose_22 rfl rfl ?_
      refine e_iconst (w := (nI 0)) dX11_whose_23 (by decide) ?_
      obtain ⟨r3, hg, hf⟩ := bO_some hf
      refine e_callV (as := [.int x1, .int (nI 0)]) (v := (some (.int r3))) (s' := s) hV dX11_whose_24 (Or.inl rfl) rfl rfl rfl rfl (Nat.le_of_ble_eq_true rfl) lx_X rfl rfl (fun Q hQ => tX11_rowIs (d := (d + 63)) hV  hg hQ) ?_
      refine e_if_ge 37 dX11_whose_27 (by decide) hf (fun hf => ?_) (fun hf => ?_)
      · refine e_aload_n 0 dX11_whose_37 rfl rfl ?_
        obtain ⟨s4, hg, hf⟩ := bO_some hf
        refine e_callV (as := []) (v := none) (s' := s4) hV dX11_whose_38 (Or.inl rfl) rfl rfl rfl rfl (Nat.le_of_ble_eq_true rfl) lx_X rfl rfl (fun Q hQ => tX11_begins (d := (d + 65)) hV  hg hQ) ?_
        refine e_iconst (w := (nI 0)) dX11_whose_41 (by decide) ?_
        refine e_istore_n dX11_whose_42 rfl (by decide) hf (fun v5 hf => ?_)
        refine e_iconst (w := (nI 0)) dX11_whose_43 (by decide) ?_
        refine e_istore dX11_whose_44 (by decide) hf (fun v6 hf => ?_)
        refine e_pick [2, 3, 4, 1, 0] rfl ?_
        exact wX11_whose_b46 hV hP mFu x1 x2 v5 v6 s4 hf
      · refine e_aload_n 0 dX11_whose_30 rfl rfl ?_
        refine e_iload_n 1 dX11_whose_31 rfl rfl ?_
        refine e_iconst (w := (nI 0)) dX11_whose_32 (by decide) ?_
        obtain ⟨r11, hg, hf⟩ := bO_some hf
        refine e_callV (as := [.int x1, .int (nI 0)]) (v := (some (.int r11))) (s' := s) hV dX11_whose_33 (Or.inl rfl) rfl rfl rfl rfl (Nat.le_of_ble_eq_true rfl) lx_X rfl rfl (fun Q hQ => tX11_rowIs (d := (d + 63)) hV  hg hQ) ?_
        obtain rfl := Option.some.inj hf
        exact e_iret dX11_whose_36 trivial hP
    · refine e_iconst (w := (-1)) dX11_whose_19 (by decide) ?_
      obtain rfl := Option.some.inj hf
      exact e_iret dX11_whose_20 trivial hP

theorem dX11_where_0 : decode cX11_where 0 = .ok (.aload_n 0, 1) := by decide +kernel
theorem dX11_where_1 : decode cX11_where 1 = .ok (.iload_n 1, 1) := by decide +kernel
theorem dX11_where_2 : decode cX11_where 2 = .ok (.iconst 0, 1) := by decide +kernel
theorem dX11_where_3 : decode cX11_where 3 = .ok (.invokevirtual 227, 3) := by decide +kernel
theorem dX11_where_6 : decode cX11_where 6 = .ok (.iconst (-1), 1) := by decide +kernel
theorem dX11_where_7 : decode cX11_where 7 = .ok (.if_icmp .eq 12, 3) := by decide +kernel
theorem dX11_where_10 : decode cX11_where 10 = .ok (.aload_n 0, 1) := by decide +kernel
theorem dX11_where_11 : decode cX11_where 11 = .ok (.iload_n 2, 1) := by decide +kernel
theorem dX11_where_12 : decode cX11_where 12 = .ok (.i2l, 1) := by decide +kernel
theorem dX11_where_13 : decode cX11_where 13 = .ok (.invokevirtual 100, 3) := by decide +kernel
theorem dX11_where_16 : decode cX11_where 16 = .ok (.ifCond .ne 5, 3) := by decide +kernel
theorem dX11_where_19 : decode cX11_where 19 = .ok (.iconst (-1), 1) := by decide +kernel
theorem dX11_where_20 : decode cX11_where 20 = .ok (.ireturn, 1) := by decide +kernel
theorem dX11_where_21 : decode cX11_where 21 = .ok (.aload_n 0, 1) := by decide +kernel
theorem dX11_where_22 : decode cX11_where 22 = .ok (.iload_n 1, 1) := by decide +kernel
theorem dX11_where_23 : decode cX11_where 23 = .ok (.iconst 0, 1) := by decide +kernel
theorem dX11_where_24 : decode cX11_where 24 = .ok (.invokevirtual 227, 3) := by decide +kernel
theorem dX11_where_27 : decode cX11_where 27 = .ok (.ifCond .ge 10, 3) := by decide +kernel
theorem dX11_where_30 : decode cX11_where 30 = .ok (.aload_n 0, 1) := by decide +kernel
theorem dX11_where_31 : decode cX11_where 31 = .ok (.iload_n 1, 1) := by decide +kernel
theorem dX11_where_32 : decode cX11_where 32 = .ok (.iconst 0, 1) := by decide +kernel
theorem dX11_where_33 : decode cX11_where 33 = .ok (.invokevirtual 227, 3) := by decide +kernel
theorem dX11_where_36 : decode cX11_where 36 = .ok (.ireturn, 1) := by decide +kernel
theorem dX11_where_37 : decode cX11_where 37 = .ok (.aload_n 0, 1) := by decide +kernel
theorem dX11_where_38 : decode cX11_where 38 = .ok (.invokevirtual 217, 3) := by decide +kernel
theorem dX11_where_41 : decode cX11_where 41 = .ok (.iconst 0, 1) := by decide +kernel
theorem dX11_where_42 : decode cX11_where 42 = .ok (.istore_n 3, 1) := by decide +kernel
theorem dX11_where_43 : decode cX11_where 43 = .ok (.iconst 0, 1) := by decide +kernel
theorem dX11_where_44 : decode cX11_where 44 = .ok (.istore 4, 2) := by decide +kernel
theorem dX11_where_46 : decode cX11_where 46 = .ok (.iload 4, 2) := by decide +kernel
theorem dX11_where_48 : decode cX11_where 48 = .ok (.aload_n 0, 1) := by decide +kernel
theorem dX11_where_49 : decode cX11_where 49 = .ok (.getfield 90, 3) := by decide +kernel
theorem dX11_where_52 : decode cX11_where 52 = .ok (.if_icmp .ge 31, 3) := by decide +kernel
theorem dX11_where_55 : decode cX11_where 55 = .ok (.iload_n 3, 1) := by decide +kernel
theorem dX11_where_56 : decode cX11_where 56 = .ok (.aload_n 0, 1) := by decide +kernel
theorem dX11_where_57 : decode cX11_where 57 = .ok (.iload_n 1, 1) := by decide +kernel
theorem dX11_where_58 : decode cX11_where 58 = .ok (.iload_n 2, 1) := by decide +kernel
theorem dX11_where_59 : decode cX11_where 59 = .ok (.iload 4, 2) := by decide +kernel
theorem dX11_where_61 : decode cX11_where 61 = .ok (.invokevirtual 248, 3) := by decide +kernel
theorem dX11_where_64 : decode cX11_where 64 = .ok (.ifCond .eq 10, 3) := by decide +kernel
theorem dX11_where_67 : decode cX11_where 67 = .ok (.iconst 1, 1) := by decide +kernel
theorem dX11_where_68 : decode cX11_where 68 = .ok (.iload 4, 2) := by decide +kernel
theorem dX11_where_70 : decode cX11_where 70 = .ok (.ishl, 1) := by decide +kernel
theorem dX11_where_71 : decode cX11_where 71 = .ok (.goto 4, 3) := by decide +kernel
theorem dX11_where_74 : decode cX11_where 74 = .ok (.iconst 0, 1) := by decide +kernel
theorem dX11_where_75 : decode cX11_where 75 = .ok (.ior, 1) := by decide +kernel
theorem dX11_where_76 : decode cX11_where 76 = .ok (.istore_n 3, 1) := by decide +kernel
theorem dX11_where_77 : decode cX11_where 77 = .ok (.iinc 4 1, 3) := by decide +kernel
theorem dX11_where_80 : decode cX11_where 80 = .ok (.goto (-34), 3) := by decide +kernel
theorem dX11_where_83 : decode cX11_where 83 = .ok (.iload_n 3, 1) := by decide +kernel
theorem dX11_where_84 : decode cX11_where 84 = .ok (.ireturn, 1) := by decide +kernel
def fX11_where_b75 (K46 : Int32 → Int32 → Int32 → Int32 → mS → Option (Int32 × mS)) (y1 : Int32) (y2 : Int32) (y4 : Int32) (z0 : Int32) (z1 : Int32) (s : mS) : Option (Int32 × mS) :=
  bnd (z1 ||| z0) fun v9 =>
  bnd (y4 + (nI 1)) fun v10 =>
  K46 y1 y2 v9 v10 s

def fX11_where_b46 : Nat → Int32 → Int32 → Int32 → Int32 → mS → Option (Int32 × mS)
  | 0, _, _, _, _, _ => none
  | k + 1, y1, y2, y3, y4, s =>
    if (gI s iX_machines) ≤ y4 then
      some (y3, s)
    else
      bP (fX11_isSheet y1 y2 y4 s) fun r7 s8 =>
      if r7 = 0 then
        fX11_where_b75 (fun u0 u1 u2 u3 u4 => fX11_where_b46 k u0 u1 u2 u3 u4) y1 y2 y4 (nI 0) y3 s8
      else
        fX11_where_b75 (fun u0 u1 u2 u3 u4 => fX11_where_b46 k u0 u1 u2 u3 u4) y1 y2 y4 ((nI 1) <<< (y4 &&& 31)) y3 s8

def fX11_where (x1 : Int32) (x2 : Int32) (s : mS) : Option (Int32 × mS) :=
  bO (fX11_rowIs x1 (nI 0) s) fun r1 =>
  if r1 = (-1) then
    some ((-1), s)
  else
    bO (fX11_isWriter (Int32.toInt64 x2) s) fun r2 =>
    if r2 = 0 then
      some ((-1), s)
    else
      bO (fX11_rowIs x1 (nI 0) s) fun r3 =>
      if 0 ≤ r3 then
        bO (fX11_begins s) fun s4 =>
        bnd (nI 0) fun v5 =>
        bnd (nI 0) fun v6 =>
        fX11_where_b46 mFu x1 x2 v5 v6 s4
      else
        bO (fX11_rowIs x1 (nI 0) s) fun r11 =>
        some (r11, s)

set_option maxRecDepth 20000 in
theorem wX11_where_b75 {ρ : mRo} {d : Nat} {P : mPo} {V : mS → List mE} (hV : mView LX V)  {res : (Int32 × mS)} {K46 : Int32 → Int32 → Int32 → Int32 → mS → Option (Int32 × mS)} (hK46 : ∀ (y1 : Int32) (y2 : Int32) (y3 : Int32) (y4 : Int32) (s : mS), K46 y1 y2 y3 y4 s = some res → mG ρ (mC ρ (d + 66)) 11 5 cX11_where (some .int) P 46 [(0, .ref qX), (1, .int y1), (2, .int y2), (3, .int y3), (4, .int y4)] [] (V s)) (hP : P (some (.int res.1)) (V res.2)) (y1 : Int32) (y2 : Int32) (y4 : Int32) (z0 : Int32) (z1 : Int32) (s : mS) (hf : fX11_where_b75 K46 y1 y2 y4 z0 z1 s = some res) : mG ρ (mC ρ (d + 66)) 11 5 cX11_where (some .int) P 75 [(0, .ref qX), (1, .int y1), (2, .int y2), (4, .int y4)] [.int z0, .int z1] (V s) := by
  unfold fX11_where_b75 at hf
  refine e_ior dX11_where_75 ?_
  refine e_istore_n dX11_where_76 rfl (by decide) hf (fun v9 hf => ?_)
  refine e_iinc 4 dX11_where_77 (by decide) rfl hf (fun v10 hf => ?_)
  refine e_goto 46 dX11_where_80 (by decide) ?_
  refine e_pick [2, 3, 4, 1, 0] rfl ?_
  exact hK46 y1 y2 v9 v10 s hf
set_option maxRecDepth 20000 in
theorem wX11_where_b46 {ρ : mRo} {d : Nat} {P : mPo} {V : mS → List mE} (hV : mView LX V)  {res : (Int32 × mS)} (hP : P (some (.int res.1)) (V res.2)) : ∀ (k : Nat) (y1 : Int32) (y2 : Int32) (y3 : Int32) (y4 : Int32) (s : mS), fX11_where_b46 k y1 y2 y3 y4 s = some res → mG ρ (mC ρ (d + 66)) 11 5 cX11_where (some .int) P 46 [(0, .ref qX), (1, .int y1), (2, .int y2), (3, .int y3), (4, .int y4)] [] (V s) := by
  intro k
  induction k with
  | zero => intro y1 y2 y3 y4 s hf; rw [fX11_where_b46] at hf; cases hf
  | succ k ih =>
    intro y1 y2 y3 y4 s hf
    rw [fX11_where_b46] at hf
    refine e_iload 4 dX11_where_46 rfl ?_
    refine e_aload_n 0 dX11_where_48 rfl rfl ?_
    refine e_geti hV dX11_where_49 rfl lx_X rfl ?_
    refine e_icmp_ge 83 dX11_where_52 (by decide) hf (fun hf => ?_) (fun hf => ?_)
    · refine e_iload_n 3 dX11_where_83 rfl rfl ?_
      obtain rfl := Option.some.inj hf
      exact e_iret dX11_where_84 trivial hP
    · refine e_iload_n 3 dX11_where_55 rfl rfl ?_
      refine e_aload_n 0 dX11_where_56 rfl rfl ?_
      refine e_iload_n 1 dX11_where_57 rfl rfl ?_
      refine e_iload_n 2 dX11_where_58 rfl rfl ?_
      refine e_iload 4 dX11_where_59 rfl ?_
      obtain ⟨r7, s8, hg, hf⟩ := bP_some hf
      refine e_callV (as := [.int y1, .int y2, .int y4]) (v := (some (.int r7))) (s' := s8) hV dX11_where_61 (Or.inl rfl) rfl rfl rfl rfl (Nat.le_of_ble_eq_true rfl) lx_X rfl rfl (fun Q hQ => tX11_isSheet (d := d) hV  hg hQ) ?_
      refine e_if_eq 74 dX11_where_64 (by decide) hf (fun hf => ?_) (fun hf => ?_)
      · refine e_iconst (w := (nI 0)) dX11_where_74 (by decide) ?_
        refine e_pick [0, 1, 2, 4] rfl ?_
        exact wX11_where_b75 hV ih hP y1 y2 y4 (nI 0) y3 s8 hf
      · refine e_iconst (w := (nI 1)) dX11_where_67 (by decide) ?_
        refine e_iload 4 dX11_where_68 rfl ?_
        refine e_ishl dX11_where_70 ?_
        refine e_goto 75 dX11_where_71 (by decide) ?_
        refine e_pick [0, 1, 2, 4] rfl ?_
        exact wX11_where_b75 hV ih hP y1 y2 y4 ((nI 1) <<< (y4 &&& 31)) y3 s8 hf
set_option maxRecDepth 20000 in
theorem tX11_where {ρ : mRo} {d : Nat} {P : mPo} {V : mS → List mE} (hV : mView LX V)  {x1 : Int32} {x2 : Int32} {s : mS} {res : (Int32 × mS)} (hf : fX11_where x1 x2 s = some res) (hP : P (some (.int res.1)) (V res.2)) : mC ρ (d + 67) 191 [.ref qX, .int x1, .int x2] (V s) P := by
  refine ⟨_, rfl, Nat.le_of_ble_eq_true rfl, by decide, ?_⟩
  show mG ρ (mC ρ (d + 66)) 11 5 cX11_where (some .int) P 0 [(0, .ref qX), (1, .int x1), (2, .int x2)] [] (V s)
  unfold fX11_where at hf
  refine e_aload_n 0 dX11_where_0 rfl rfl ?_
  refine e_iload_n 1 dX11_where_1 rfl rfl ?_
  refine e_iconst (w := (nI 0)) dX11_where_2 (by decide) ?_
  obtain ⟨r1, hg, hf⟩ := bO_some hf
  refine e_callV (as := [.int x1, .int (nI 0)]) (v := (some (.int r1))) (s' := s) hV dX11_where_3 (Or.inl rfl) rfl rfl rfl rfl (Nat.le_of_ble_eq_true rfl) lx_X rfl rfl (fun Q hQ => tX11_rowIs (d := (d + 63)) hV  hg hQ) ?_
  refine e_iconst (w := (-1)) dX11_where_6 (by decide) ?_
  refine e_icmp_eq 19 dX11_where_7 (by decide) hf (fun hf => ?_) (fun hf => ?_)
  · refine e_iconst (w := (-1)) dX11_where_19 (by decide) ?_
    obtain rfl := Option.some.inj hf
    exact e_iret dX11_where_20 trivial hP
  · refine e_aload_n 0 dX11_where_10 rfl rfl ?_
    refine e_iload_n 2 dX11_where_11 rfl rfl ?_
    refine e_i2l dX11_where_12 ?_
    obtain ⟨r2, hg, hf⟩ := bO_some hf
    refine e_callV (as := [.long (Int32.toInt64 x2)]) (v := (some (.int r2))) (s' := s) hV dX11_where_13 (Or.inl rfl) rfl rfl rfl rfl (Nat.le_of_ble_eq_true rfl) lx_X rfl rfl (fun Q hQ => tX11_isWriter (d := (d + 64)) hV  hg hQ) ?_
    refine e_if_ne 21 dX11_where_16 (by decide) hf (fun hf => ?_) (fun hf => ?_)
    · refine e_aload_n 0 dX11_where_21 rfl rfl ?_
      refine e_iload_n 1 dX11_where_22 rfl rfl ?_
      refine e_iconst (w := (nI 0)) dX11_where_23 (by decide) ?_
      obtain ⟨r3, hg, hf⟩ := bO_some hf
      refine e_callV (as := [.int x1, .int (nI 0)]) (v := (some (.int r3))) (s' := s) hV dX11_where_24 (Or.inl rfl) rfl rfl rfl rfl (Nat.le_of_ble_eq_true rfl) lx_X rfl rfl (fun Q hQ => tX11_rowIs (d := (d + 63)) hV  hg hQ) ?_
      refine e_if_ge 37 dX11_where_27 (by decide) hf (fun hf => ?_) (fun hf => ?_)
      · refine e_aload_n 0 dX11_where_37 rfl rfl ?_
        obtain ⟨s4, hg, hf⟩ := bO_some hf
        refine e_callV (as := []) (v := none) (s' := s4) hV dX11_where_38 (Or.inl rfl) rfl rfl rfl rfl (Nat.le_of_ble_eq_true rfl) lx_X rfl rfl (fun Q hQ => tX11_begins (d := (d + 65)) hV  hg hQ) ?_
        refine e_iconst (w := (nI 0)) dX11_where_41 (by decide) ?_
        refine e_istore_n dX11_where_42 rfl (by decide) hf (fun v5 hf => ?_)
        refine e_iconst (w := (nI 0)) dX11_where_43 (by decide) ?_
        refine e_istore dX11_where_44 (by decide) hf (fun v6 hf => ?_)
        refine e_pick [2, 3, 4, 1, 0] rfl ?_
        exact wX11_where_b46 hV hP mFu x1 x2 v5 v6 s4 hf
      · refine e_aload_n 0 dX11_where_30 rfl rfl ?_
        refine e_iload_n 1 dX11_where_31 rfl rfl ?_
        refine e_iconst (w := (nI 0)) dX11_where_32 (by decide) ?_
        obtain ⟨r11, hg, hf⟩ := bO_some hf
        refine e_callV (as := [.int x1, .int (nI 0)]) (v := (some (.int r11))) (s' := s) hV dX11_where_33 (Or.inl rfl) rfl rfl rfl rfl (Nat.le_of_ble_eq_true rfl) lx_X rfl rfl (fun Q hQ => tX11_rowIs (d := (d + 63)) hV  hg hQ) ?_
        obtain rfl := Option.some.inj hf
        exact e_iret dX11_where_36 trivial hP
    · refine e_iconst (w := (-1)) dX11_where_19 (by decide) ?_
      obtain rfl := Option.some.inj hf
      exact e_iret dX11_where_20 trivial hP

theorem dX11_pairs_0 : decode cX11_pairs 0 = .ok (.aload_n 0, 1) := by decide +kernel
theorem dX11_pairs_1 : decode cX11_pairs 1 = .ok (.iload_n 1, 1) := by decide +kernel
theorem dX11_pairs_2 : decode cX11_pairs 2 = .ok (.iconst 0, 1) := by decide +kernel
theorem dX11_pairs_3 : decode cX11_pairs 3 = .ok (.invokevirtual 227, 3) := by decide +kernel
theorem dX11_pairs_6 : decode cX11_pairs 6 = .ok (.iconst (-1), 1) := by decide +kernel
theorem dX11_pairs_7 : decode cX11_pairs 7 = .ok (.if_icmp .eq 13, 3) := by decide +kernel
theorem dX11_pairs_10 : decode cX11_pairs 10 = .ok (.iload_n 2, 1) := by decide +kernel
theorem dX11_pairs_11 : decode cX11_pairs 11 = .ok (.i2l, 1) := by decide +kernel
theorem dX11_pairs_12 : decode cX11_pairs 12 = .ok (.lconst 0, 1) := by decide +kernel
theorem dX11_pairs_13 : decode cX11_pairs 13 = .ok (.lconst 1, 1) := by decide +kernel
theorem dX11_pairs_14 : decode cX11_pairs 14 = .ok (.invokestatic 93, 3) := by decide +kernel
theorem dX11_pairs_17 : decode cX11_pairs 17 = .ok (.ifCond .ne 5, 3) := by decide +kernel
theorem dX11_pairs_20 : decode cX11_pairs 20 = .ok (.iconst (-1), 1) := by decide +kernel
theorem dX11_pairs_21 : decode cX11_pairs 21 = .ok (.ireturn, 1) := by decide +kernel
theorem dX11_pairs_22 : decode cX11_pairs 22 = .ok (.aload_n 0, 1) := by decide +kernel
theorem dX11_pairs_23 : decode cX11_pairs 23 = .ok (.iload_n 1, 1) := by decide +kernel
theorem dX11_pairs_24 : decode cX11_pairs 24 = .ok (.iconst 0, 1) := by decide +kernel
theorem dX11_pairs_25 : decode cX11_pairs 25 = .ok (.invokevirtual 227, 3) := by decide +kernel
theorem dX11_pairs_28 : decode cX11_pairs 28 = .ok (.ifCond .ge 10, 3) := by decide +kernel
theorem dX11_pairs_31 : decode cX11_pairs 31 = .ok (.aload_n 0, 1) := by decide +kernel
theorem dX11_pairs_32 : decode cX11_pairs 32 = .ok (.iload_n 1, 1) := by decide +kernel
theorem dX11_pairs_33 : decode cX11_pairs 33 = .ok (.iconst 0, 1) := by decide +kernel
theorem dX11_pairs_34 : decode cX11_pairs 34 = .ok (.invokevirtual 227, 3) := by decide +kernel
theorem dX11_pairs_37 : decode cX11_pairs 37 = .ok (.ireturn, 1) := by decide +kernel
theorem dX11_pairs_38 : decode cX11_pairs 38 = .ok (.aload_n 0, 1) := by decide +kernel
theorem dX11_pairs_39 : decode cX11_pairs 39 = .ok (.invokevirtual 217, 3) := by decide +kernel
theorem dX11_pairs_42 : decode cX11_pairs 42 = .ok (.iconst 0, 1) := by decide +kernel
theorem dX11_pairs_43 : decode cX11_pairs 43 = .ok (.istore_n 3, 1) := by decide +kernel
theorem dX11_pairs_44 : decode cX11_pairs 44 = .ok (.iconst 0, 1) := by decide +kernel
theorem dX11_pairs_45 : decode cX11_pairs 45 = .ok (.istore 4, 2) := by decide +kernel
theorem dX11_pairs_47 : decode cX11_pairs 47 = .ok (.bipush (-2), 2) := by decide +kernel
theorem dX11_pairs_49 : decode cX11_pairs 49 = .ok (.istore 5, 2) := by decide +kernel
theorem dX11_pairs_51 : decode cX11_pairs 51 = .ok (.iconst 0, 1) := by decide +kernel
theorem dX11_pairs_52 : decode cX11_pairs 52 = .ok (.istore 6, 2) := by decide +kernel
theorem dX11_pairs_54 : decode cX11_pairs 54 = .ok (.iload 6, 2) := by decide +kernel
theorem dX11_pairs_56 : decode cX11_pairs 56 = .ok (.aload_n 0, 1) := by decide +kernel
theorem dX11_pairs_57 : decode cX11_pairs 57 = .ok (.getfield 97, 3) := by decide +kernel
theorem dX11_pairs_60 : decode cX11_pairs 60 = .ok (.if_icmp .ge 86, 3) := by decide +kernel
theorem dX11_pairs_63 : decode cX11_pairs 63 = .ok (.iconst 0, 1) := by decide +kernel
theorem dX11_pairs_64 : decode cX11_pairs 64 = .ok (.istore 7, 2) := by decide +kernel
theorem dX11_pairs_66 : decode cX11_pairs 66 = .ok (.iconst 0, 1) := by decide +kernel
theorem dX11_pairs_67 : decode cX11_pairs 67 = .ok (.istore 8, 2) := by decide +kernel
theorem dX11_pairs_69 : decode cX11_pairs 69 = .ok (.iload 8, 2) := by decide +kernel
theorem dX11_pairs_71 : decode cX11_pairs 71 = .ok (.aload_n 0, 1) := by decide +kernel
theorem dX11_pairs_72 : decode cX11_pairs 72 = .ok (.getfield 90, 3) := by decide +kernel
theorem dX11_pairs_75 : decode cX11_pairs 75 = .ok (.if_icmp .ge 31, 3) := by decide +kernel
theorem dX11_pairs_78 : decode cX11_pairs 78 = .ok (.iload 7, 2) := by decide +kernel
theorem dX11_pairs_80 : decode cX11_pairs 80 = .ok (.aload_n 0, 1) := by decide +kernel
theorem dX11_pairs_81 : decode cX11_pairs 81 = .ok (.iload_n 1, 1) := by decide +kernel
theorem dX11_pairs_82 : decode cX11_pairs 82 = .ok (.iload 6, 2) := by decide +kernel
theorem dX11_pairs_84 : decode cX11_pairs 84 = .ok (.iload 8, 2) := by decide +kernel
theorem dX11_pairs_86 : decode cX11_pairs 86 = .ok (.invokevirtual 248, 3) := by decide +kernel
theorem dX11_pairs_89 : decode cX11_pairs 89 = .ok (.ifCond .eq 7, 3) := by decide +kernel
theorem dX11_pairs_92 : decode cX11_pairs 92 = .ok (.iconst 1, 1) := by decide +kernel
theorem dX11_pairs_93 : decode cX11_pairs 93 = .ok (.goto 4, 3) := by decide +kernel
theorem dX11_pairs_96 : decode cX11_pairs 96 = .ok (.iconst 0, 1) := by decide +kernel
theorem dX11_pairs_97 : decode cX11_pairs 97 = .ok (.iadd, 1) := by decide +kernel
theorem dX11_pairs_98 : decode cX11_pairs 98 = .ok (.istore 7, 2) := by decide +kernel
theorem dX11_pairs_100 : decode cX11_pairs 100 = .ok (.iinc 8 1, 3) := by decide +kernel
theorem dX11_pairs_103 : decode cX11_pairs 103 = .ok (.goto (-34), 3) := by decide +kernel
theorem dX11_pairs_106 : decode cX11_pairs 106 = .ok (.iload_n 3, 1) := by decide +kernel
theorem dX11_pairs_107 : decode cX11_pairs 107 = .ok (.iload 7, 2) := by decide +kernel
theorem dX11_pairs_109 : decode cX11_pairs 109 = .ok (.iadd, 1) := by decide +kernel
theorem dX11_pairs_110 : decode cX11_pairs 110 = .ok (.istore_n 3, 1) := by decide +kernel
theorem dX11_pairs_111 : decode cX11_pairs 111 = .ok (.iload 4, 2) := by decide +kernel
theorem dX11_pairs_113 : decode cX11_pairs 113 = .ok (.iload 7, 2) := by decide +kernel
theorem dX11_pairs_115 : decode cX11_pairs 115 = .ok (.ifCond .le 7, 3) := by decide +kernel
theorem dX11_pairs_118 : decode cX11_pairs 118 = .ok (.iconst 1, 1) := by decide +kernel
theorem dX11_pairs_119 : decode cX11_pairs 119 = .ok (.goto 4, 3) := by decide +kernel
theorem dX11_pairs_122 : decode cX11_pairs 122 = .ok (.iconst 0, 1) := by decide +kernel
theorem dX11_pairs_123 : decode cX11_pairs 123 = .ok (.iadd, 1) := by decide +kernel
theorem dX11_pairs_124 : decode cX11_pairs 124 = .ok (.istore 4, 2) := by decide +kernel
theorem dX11_pairs_126 : decode cX11_pairs 126 = .ok (.iload 7, 2) := by decide +kernel
theorem dX11_pairs_128 : decode cX11_pairs 128 = .ok (.ifCond .le 8, 3) := by decide +kernel
theorem dX11_pairs_131 : decode cX11_pairs 131 = .ok (.iload 6, 2) := by decide +kernel
theorem dX11_pairs_133 : decode cX11_pairs 133 = .ok (.goto 5, 3) := by decide +kernel
theorem dX11_pairs_136 : decode cX11_pairs 136 = .ok (.iload 5, 2) := by decide +kernel
theorem dX11_pairs_138 : decode cX11_pairs 138 = .ok (.istore 5, 2) := by decide +kernel
theorem dX11_pairs_140 : decode cX11_pairs 140 = .ok (.iinc 6 1, 3) := by decide +kernel
theorem dX11_pairs_143 : decode cX11_pairs 143 = .ok (.goto (-89), 3) := by decide +kernel
theorem dX11_pairs_146 : decode cX11_pairs 146 = .ok (.iload_n 2, 1) := by decide +kernel
theorem dX11_pairs_147 : decode cX11_pairs 147 = .ok (.ifCond .ne 7, 3) := by decide +kernel
theorem dX11_pairs_150 : decode cX11_pairs 150 = .ok (.iload_n 3, 1) := by decide +kernel
theorem dX11_pairs_151 : decode cX11_pairs 151 = .ok (.goto 16, 3) := by decide +kernel
theorem dX11_pairs_154 : decode cX11_pairs 154 = .ok (.iload 4, 2) := by decide +kernel
theorem dX11_pairs_156 : decode cX11_pairs 156 = .ok (.iconst 1, 1) := by decide +kernel
theorem dX11_pairs_157 : decode cX11_pairs 157 = .ok (.if_icmp .ne 8, 3) := by decide +kernel
theorem dX11_pairs_160 : decode cX11_pairs 160 = .ok (.iload 5, 2) := by decide +kernel
theorem dX11_pairs_162 : decode cX11_pairs 162 = .ok (.goto 5, 3) := by decide +kernel
theorem dX11_pairs_165 : decode cX11_pairs 165 = .ok (.bipush (-2), 2) := by decide +kernel
theorem dX11_pairs_167 : decode cX11_pairs 167 = .ok (.ireturn, 1) := by decide +kernel
def fX11_pairs_b138 (K54 : Int32 → Int32 → Int32 → Int32 → Int32 → Int32 → mS → Option (Int32 × mS)) (y1 : Int32) (y2 : Int32) (y3 : Int32) (y4 : Int32) (y6 : Int32) (z0 : Int32) (s : mS) : Option (Int32 × mS) :=
  bnd z0 fun v13 =>
  bnd (y6 + (nI 1)) fun v14 =>
  K54 y1 y2 y3 y4 v13 v14 s

def fX11_pairs_b123 (K54 : Int32 → Int32 → Int32 → Int32 → Int32 → Int32 → mS → Option (Int32 × mS)) (y1 : Int32) (y2 : Int32) (y3 : Int32) (y5 : Int32) (y6 : Int32) (y7 : Int32) (z0 : Int32) (z1 : Int32) (s : mS) : Option (Int32 × mS) :=
  bnd (z1 + z0) fun v12 =>
  if y7 ≤ 0 then
    fX11_pairs_b138 K54 y1 y2 y3 v12 y6 y5 s
  else
    fX11_pairs_b138 K54 y1 y2 y3 v12 y6 y6 s

def fX11_pairs_b97 (K54 : Int32 → Int32 → Int32 → Int32 → Int32 → Int32 → mS → Option (Int32 × mS)) (K69 : Int32 → Int32 → Int32 → Int32 → Int32 → Int32 → Int32 → Int32 → mS → Option (Int32 × mS)) (y1 : Int32) (y2 : Int32) (y3 : Int32) (y4 : Int32) (y5 : Int32) (y6 : Int32) (y8 : Int32) (z0 : Int32) (z1 : Int32) (s : mS) : Option (Int32 × mS) :=
  bnd (z1 + z0) fun v17 =>
  bnd (y8 + (nI 1)) fun v18 =>
  K69 y1 y2 y3 y4 y5 y6 v17 v18 s

def fX11_pairs_b69 (K54 : Int32 → Int32 → Int32 → Int32 → Int32 → Int32 → mS → Option (Int32 × mS)) : Nat → Int32 → Int32 → Int32 → Int32 → Int32 → Int32 → Int32 → Int32 → mS → Option (Int32 × mS)
  | 0, _, _, _, _, _, _, _, _, _ => none
  | k + 1, y1, y2, y3, y4, y5, y6, y7, y8, s =>
    if (gI s iX_machines) ≤ y8 then
      bnd (y3 + y7) fun v11 =>
      if y7 ≤ 0 then
        fX11_pairs_b123 K54 y1 y2 v11 y5 y6 y7 (nI 0) y4 s
      else
        fX11_pairs_b123 K54 y1 y2 v11 y5 y6 y7 (nI 1) y4 s
    else
      bP (fX11_isSheet y1 y6 y8 s) fun r15 s16 =>
      if r15 = 0 then
        fX11_pairs_b97 K54 (fun u0 u1 u2 u3 u4 u5 u6 u7 u8 => fX11_pairs_b69 K54 k u0 u1 u2 u3 u4 u5 u6 u7 u8) y1 y2 y3 y4 y5 y6 y8 (nI 0) y7 s16
      else
        fX11_pairs_b97 K54 (fun u0 u1 u2 u3 u4 u5 u6 u7 u8 => fX11_pairs_b69 K54 k u0 u1 u2 u3 u4 u5 u6 u7 u8) y1 y2 y3 y4 y5 y6 y8 (nI 1) y7 s16

def fX11_pairs_b54 : Nat → Int32 → Int32 → Int32 → Int32 → Int32 → Int32 → mS → Option (Int32 × mS)
  | 0, _, _, _, _, _, _, _ => none
  | k + 1, y1, y2, y3, y4, y5, y6, s =>
    if (gI s iX_writers) ≤ y6 then
      if y2 = 0 then
        some (y3, s)
      else
        if y4 = (nI 1) then
          some (y5, s)
        else
          some ((-2), s)
    else
      bnd (nI 0) fun v9 =>
      bnd (nI 0) fun v10 =>
      fX11_pairs_b69 (fun u0 u1 u2 u3 u4 u5 u6 => fX11_pairs_b54 k u0 u1 u2 u3 u4 u5 u6) mFu y1 y2 y3 y4 y5 y6 v9 v10 s

def fX11_pairs (x1 : Int32) (x2 : Int32) (s : mS) : Option (Int32 × mS) :=
  bO (fX11_rowIs x1 (nI 0) s) fun r1 =>
  if r1 = (-1) then
    some ((-1), s)
  else
    bO (fX11_within (Int32.toInt64 x2) 0 1 s) fun r2 =>
    if r2 = 0 then
      some ((-1), s)
    else
      bO (fX11_rowIs x1 (nI 0) s) fun r3 =>
      if 0 ≤ r3 then
        bO (fX11_begins s) fun s4 =>
        bnd (nI 0) fun v5 =>
        bnd (nI 0) fun v6 =>
        bnd (-2) fun v7 =>
        bnd (nI 0) fun v8 =>
        fX11_pairs_b54 mFu x1 x2 v5 v6 v7 v8 s4
      else
        bO (fX11_rowIs x1 (nI 0) s) fun r19 =>
        some (r19, s)

set_option maxRecDepth 20000 in
theorem wX11_pairs_b138 {ρ : mRo} {d : Nat} {P : mPo} {V : mS → List mE} (hV : mView LX V)  {res : (Int32 × mS)} {K54 : Int32 → Int32 → Int32 → Int32 → Int32 → Int32 → mS → Option (Int32 × mS)} (hK54 : ∀ (y1 : Int32) (y2 : Int32) (y3 : Int32) (y4 : Int32) (y5 : Int32) (y6 : Int32) (s : mS), K54 y1 y2 y3 y4 y5 y6 s = some res → mG ρ (mC ρ (d + 66)) 11 9 cX11_pairs (some .int) P 54 [(0, .ref qX), (1, .int y1), (2, .int y2), (3, .int y3), (4, .int y4), (5, .int y5), (6, .int y6)] [] (V s)) (hP : P (some (.int res.1)) (V res.2)) (y1 : Int32) (y2 : Int32) (y3 : Int32) (y4 : Int32) (y6 : Int32) (z0 : Int32) (s : mS) (hf : fX11_pairs_b138 K54 y1 y2 y3 y4 y6 z0 s = some res) : mG ρ (mC ρ (d + 66)) 11 9 cX11_pairs (some .int) P 138 [(0, .ref qX), (1, .int y1), (2, .int y2), (3, .int y3), (4, .int y4), (6, .int y6)] [.int z0] (V s) := by
  unfold fX11_pairs_b138 at hf
  refine e_istore dX11_pairs_138 (by decide) hf (fun v13 hf => ?_)
  refine e_iinc 6 dX11_pairs_140 (by decide) rfl hf (fun v14 hf => ?_)
  refine e_goto 54 dX11_pairs_143 (by decide) ?_
  refine e_pick [2, 3, 4, 5, 6, 1, 0] rfl ?_
  exact hK54 y1 y2 y3 y4 v13 v14 s hf
set_option maxRecDepth 20000 in
theorem wX11_pairs_b123 {ρ : mRo} {d : Nat} {P : mPo} {V : mS → List mE} (hV : mView LX V)  {res : (Int32 × mS)} {K54 : Int32 → Int32 → Int32 → Int32 → Int32 → Int32 → mS → Option (Int32 × mS)} (hK54 : ∀ (y1 : Int32) (y2 : Int32) (y3 : Int32) (y4 : Int32) (y5 : Int32) (y6 : Int32) (s : mS), K54 y1 y2 y3 y4 y5 y6 s = some res → mG ρ (mC ρ (d + 66)) 11 9 cX11_pairs (some .int) P 54 [(0, .ref qX), (1, .int y1), (2, .int y2), (3, .int y3), (4, .int y4), (5, .int y5), (6, .int y6)] [] (V s)) (hP : P (some (.int res.1)) (V res.2)) (y1 : Int32) (y2 : Int32) (y3 : Int32) (y5 : Int32) (y6 : Int32) (y7 : Int32) (z0 : Int32) (z1 : Int32) (s : mS) (hf : fX11_pairs_b123 K54 y1 y2 y3 y5 y6 y7 z0 z1 s = some res) : mG ρ (mC ρ (d + 66)) 11 9 cX11_pairs (some .int) P 123 [(0, .ref qX), (1, .int y1), (2, .int y2), (3, .int y3), (5, .int y5), (6, .int y6), (7, .int y7)] [.int z0, .int z1] (V s) := by
  unfold fX11_pairs_b123 at hf
  refine e_iadd dX11_pairs_123 ?_
  refine e_istore dX11_pairs_124 (by decide) hf (fun v12 hf => ?_)
  refine e_iload 7 dX11_pairs_126 rfl ?_
  refine e_if_le 136 dX11_pairs_128 (by decide) hf (fun hf => ?_) (fun hf => ?_)
  · refine e_iload 5 dX11_pairs_136 rfl ?_
    refine e_pick [1, 2, 3, 4, 0, 6] rfl ?_
    exact wX11_pairs_b138 hV hK54 hP y1 y2 y3 v12 y6 y5 s hf
  · refine e_iload 6 dX11_pairs_131 rfl ?_
    refine e_goto 138 dX11_pairs_133 (by decide) ?_
    refine e_pick [1, 2, 3, 4, 0, 6] rfl ?_
    exact wX11_pairs_b138 hV hK54 hP y1 y2 y3 v12 y6 y6 s hf
set_option maxRecDepth 20000 in
theorem wX11_pairs_b97 {ρ : mRo} {d : Nat} {P : mPo} {V : mS → List mE} (hV : mView LX V)  {res : (Int32 × mS)} {K54 : Int32 → Int32 → Int32 → Int32 → Int32 → Int32 → mS → Option (Int32 × mS)} (hK54 : ∀ (y1 : Int32) (y2 : Int32) (y3 : Int32) (y4 : Int32) (y5 : Int32) (y6 : Int32) (s : mS), K54 y1 y2 y3 y4 y5 y6 s = some res → mG ρ (mC ρ (d + 66)) 11 9 cX11_pairs (some .int) P 54 [(0, .ref qX), (1, .int y1), (2, .int y2), (3, .int y3), (4, .int y4), (5, .int y5), (6, .int y6)] [] (V s)) {K69 : Int32 → Int32 → Int32 → Int32 → Int32 → Int32 → Int32 → Int32 → mS → Option (Int32 × mS)} (hK69 : ∀ (y1 : Int32) (y2 : Int32) (y3 : Int32) (y4 : Int32) (y5 : Int32) (y6 : Int32) (y7 : Int32) (y8 : Int32) (s : mS), K69 y1 y2 y3 y4 y5 y6 y7 y8 s = some res → mG ρ (mC ρ (d + 66)) 11 9 cX11_pairs (some .int) P 69 [(0, .ref qX), (1, .int y1), (2, .int y2), (3, .int y3), (4, .int y4), (5, .int y5), (6, .int y6), (7, .int y7), (8, .int y8)] [] (V s)) (hP : P (some (.int res.1)) (V res.2)) (y1 : Int32) (y2 : Int32) (y3 : Int32) (y4 : Int32) (y5 : Int32) (y6 : Int32) (y8 : Int32) (z0 : Int32) (z1 : Int32) (s : mS) (hf : fX11_pairs_b97 K54 K69 y1 y2 y3 y4 y5 y6 y8 z0 z1 s = some res) : mG ρ (mC ρ (d + 66)) 11 9 cX11_pairs (some .int) P 97 [(0, .ref qX), (1, .int y1), (2, .int y2), (3, .int y3), (4, .int y4), (5, .int y5), (6, .int y6), (8, .int y8)] [.int z0, .int z1] (V s) := by
  unfold fX11_pairs_b97 at hf
  refine e_iadd dX11_pairs_97 ?_
  refine e_istore dX11_pairs_98 (by decide) hf (fun v17 hf => ?_)
  refine e_iinc 8 dX11_pairs_100 (by decide) rfl hf (fun v18 hf => ?_)
  refine e_goto 69 dX11_pairs_103 (by decide) ?_
  refine e_pick [2, 3, 4, 5, 6, 7, 8, 1, 0] rfl ?_
  exact hK69 y1 y2 y3 y4 y5 y6 v17 v18 s hf
set_option maxRecDepth 20000 in
theorem wX11_pairs_b69 {ρ : mRo} {d : Nat} {P : mPo} {V : mS → List mE} (hV : mView LX V)  {res : (Int32 × mS)} {K54 : Int32 → Int32 → Int32 → Int32 → Int32 → Int32 → mS → Option (Int32 × mS)} (hK54 : ∀ (y1 : Int32) (y2 : Int32) (y3 : Int32) (y4 : Int32) (y5 : Int32) (y6 : Int32) (s : mS), K54 y1 y2 y3 y4 y5 y6 s = some res → mG ρ (mC ρ (d + 66)) 11 9 cX11_pairs (some .int) P 54 [(0, .ref qX), (1, .int y1), (2, .int y2), (3, .int y3), (4, .int y4), (5, .int y5), (6, .int y6)] [] (V s)) (hP : P (some (.int res.1)) (V res.2)) : ∀ (k : Nat) (y1 : Int32) (y2 : Int32) (y3 : Int32) (y4 : Int32) (y5 : Int32) (y6 : Int32) (y7 : Int32) (y8 : Int32) (s : mS), fX11_pairs_b69 K54 k y1 y2 y3 y4 y5 y6 y7 y8 s = some res → mG ρ (mC ρ (d + 66)) 11 9 cX11_pairs (some .int) P 69 [(0, .ref qX), (1, .int y1), (2, .int y2), (3, .int y3), (4, .int y4), (5, .int y5), (6, .int y6), (7, .int y7), (8, .int y8)] [] (V s) := by
  intro k
  induction k with
  | zero => intro y1 y2 y3 y4 y5 y6 y7 y8 s hf; rw [fX11_pairs_b69] at hf; cases hf
  | succ k ih =>
    intro y1 y2 y3 y4 y5 y6 y7 y8 s hf
    rw [fX11_pairs_b69] at hf
    refine e_iload 8 dX11_pairs_69 rfl ?_
    refine e_aload_n 0 dX11_pairs_71 rfl rfl ?_
    refine e_geti hV dX11_pairs_72 rfl lx_X rfl ?_
    refine e_icmp_ge 106 dX11_pairs_75 (by decide) hf (fun hf => ?_) (fun hf => ?_)
    · refine e_iload_n 3 dX11_pairs_106 rfl rfl ?_
      refine e_iload 7 dX11_pairs_107 rfl ?_
      refine e_iadd dX11_pairs_109 ?_
      refine e_istore_n dX11_pairs_110 rfl (by decide) hf (fun v11 hf => ?_)
      refine e_iload 4 dX11_pairs_111 rfl ?_
      refine e_iload 7 dX11_pairs_113 rfl ?_
      refine e_if_le 122 dX11_pairs_115 (by decide) hf (fun hf => ?_) (fun hf => ?_)
      · refine e_iconst (w := (nI 0)) dX11_pairs_122 (by decide) ?_
        refine e_pick [1, 2, 3, 0, 5, 6, 7] rfl ?_
        exact wX11_pairs_b123 hV hK54 hP y1 y2 v11 y5 y6 y7 (nI 0) y4 s hf
      · refine e_iconst (w := (nI 1)) dX11_pairs_118 (by decide) ?_
        refine e_goto 123 dX11_pairs_119 (by decide) ?_
        refine e_pick [1, 2, 3, 0, 5, 6, 7] rfl ?_
        exact wX11_pairs_b123 hV hK54 hP y1 y2 v11 y5 y6 y7 (nI 1) y4 s hf
    · refine e_iload 7 dX11_pairs_78 rfl ?_
      refine e_aload_n 0 dX11_pairs_80 rfl rfl ?_
      refine e_iload_n 1 dX11_pairs_81 rfl rfl ?_
      refine e_iload 6 dX11_pairs_82 rfl ?_
      refine e_iload 8 dX11_pairs_84 rfl ?_
      obtain ⟨r15, s16, hg, hf⟩ := bP_some hf
      refine e_callV (as := [.int y1, .int y6, .int y8]) (v := (some (.int r15))) (s' := s16) hV dX11_pairs_86 (Or.inl rfl) rfl rfl rfl rfl (Nat.le_of_ble_eq_true rfl) lx_X rfl rfl (fun Q hQ => tX11_isSheet (d := d) hV  hg hQ) ?_
      refine e_if_eq 96 dX11_pairs_89 (by decide) hf (fun hf => ?_) (fun hf => ?_)
      · refine e_iconst (w := (nI 0)) dX11_pairs_96 (by decide) ?_
        refine e_pick [0, 1, 2, 3, 4, 5, 6, 8] rfl ?_
        exact wX11_pairs_b97 hV hK54 ih hP y1 y2 y3 y4 y5 y6 y8 (nI 0) y7 s16 hf
      · refine e_iconst (w := (nI 1)) dX11_pairs_92 (by decide) ?_
        refine e_goto 97 dX11_pairs_93 (by decide) ?_
        refine e_pick [0, 1, 2, 3, 4, 5, 6, 8] rfl ?_
        exact wX11_pairs_b97 hV hK54 ih hP y1 y2 y3 y4 y5 y6 y8 (nI 1) y7 s16 hf
set_option maxRecDepth 20000 in
theorem wX11_pairs_b54 {ρ : mRo} {d : Nat} {P : mPo} {V : mS → List mE} (hV : mView LX V)  {res : (Int32 × mS)} (hP : P (some (.int res.1)) (V res.2)) : ∀ (k : Nat) (y1 : Int32) (y2 : Int32) (y3 : Int32) (y4 : Int32) (y5 : Int32) (y6 : Int32) (s : mS), fX11_pairs_b54 k y1 y2 y3 y4 y5 y6 s = some res → mG ρ (mC ρ (d + 66)) 11 9 cX11_pairs (some .int) P 54 [(0, .ref qX), (1, .int y1), (2, .int y2), (3, .int y3), (4, .int y4), (5, .int y5), (6, .int y6)] [] (V s) := by
  intro k
  induction k with
  | zero => intro y1 y2 y3 y4 y5 y6 s hf; rw [fX11_pairs_b54] at hf; cases hf
  | succ k ih =>
    intro y1 y2 y3 y4 y5 y6 s hf
    rw [fX11_pairs_b54] at hf
    refine e_iload 6 dX11_pairs_54 rfl ?_
    refine e_aload_n 0 dX11_pairs_56 rfl rfl ?_
    refine e_geti hV dX11_pairs_57 rfl lx_X rfl ?_
    refine e_icmp_ge 146 dX11_pairs_60 (by decide) hf (fun hf => ?_) (fun hf => ?_)
    · refine e_iload_n 2 dX11_pairs_146 rfl rfl ?_
      refine e_if_ne 154 dX11_pairs_147 (by decide) hf (fun hf => ?_) (fun hf => ?_)
      · refine e_iload 4 dX11_pairs_154 rfl ?_
        refine e_iconst (w := (nI 1)) dX11_pairs_156 (by decide) ?_
        refine e_icmp_ne 165 dX11_pairs_157 (by decide) hf (fun hf => ?_) (fun hf => ?_)
        · refine e_bipush (w := (-2)) dX11_pairs_165 (by decide) ?_
          obtain rfl := Option.some.inj hf
          exact e_iret dX11_pairs_167 trivial hP
        · refine e_iload 5 dX11_pairs_160 rfl ?_
          refine e_goto 167 dX11_pairs_162 (by decide) ?_
          obtain rfl := Option.some.inj hf
          exact e_iret dX11_pairs_167 trivial hP
      · refine e_iload_n 3 dX11_pairs_150 rfl rfl ?_
        refine e_goto 167 dX11_pairs_151 (by decide) ?_
        obtain rfl := Option.some.inj hf
        exact e_iret dX11_pairs_167 trivial hP
    · refine e_iconst (w := (nI 0)) dX11_pairs_63 (by decide) ?_
      refine e_istore dX11_pairs_64 (by decide) hf (fun v9 hf => ?_)
      refine e_iconst (w := (nI 0)) dX11_pairs_66 (by decide) ?_
      refine e_istore dX11_pairs_67 (by decide) hf (fun v10 hf => ?_)
      refine e_pick [2, 3, 4, 5, 6, 7, 8, 1, 0] rfl ?_
      exact wX11_pairs_b69 hV ih hP mFu y1 y2 y3 y4 y5 y6 v9 v10 s hf
set_option maxRecDepth 20000 in
theorem tX11_pairs {ρ : mRo} {d : Nat} {P : mPo} {V : mS → List mE} (hV : mView LX V)  {x1 : Int32} {x2 : Int32} {s : mS} {res : (Int32 × mS)} (hf : fX11_pairs x1 x2 s = some res) (hP : P (some (.int res.1)) (V res.2)) : mC ρ (d + 67) 192 [.ref qX, .int x1, .int x2] (V s) P := by
  refine ⟨_, rfl, Nat.le_of_ble_eq_true rfl, by decide, ?_⟩
  show mG ρ (mC ρ (d + 66)) 11 9 cX11_pairs (some .int) P 0 [(0, .ref qX), (1, .int x1), (2, .int x2)] [] (V s)
  unfold fX11_pairs at hf
  refine e_aload_n 0 dX11_pairs_0 rfl rfl ?_
  refine e_iload_n 1 dX11_pairs_1 rfl rfl ?_
  refine e_iconst (w := (nI 0)) dX11_pairs_2 (by decide) ?_
  obtain ⟨r1, hg, hf⟩ := bO_some hf
  refine e_callV (as := [.int x1, .int (nI 0)]) (v := (some (.int r1))) (s' := s) hV dX11_pairs_3 (Or.inl rfl) rfl rfl rfl rfl (Nat.le_of_ble_eq_true rfl) lx_X rfl rfl (fun Q hQ => tX11_rowIs (d := (d + 63)) hV  hg hQ) ?_
  refine e_iconst (w := (-1)) dX11_pairs_6 (by decide) ?_
  refine e_icmp_eq 20 dX11_pairs_7 (by decide) hf (fun hf => ?_) (fun hf => ?_)
  · refine e_iconst (w := (-1)) dX11_pairs_20 (by decide) ?_
    obtain rfl := Option.some.inj hf
    exact e_iret dX11_pairs_21 trivial hP
  · refine e_iload_n 2 dX11_pairs_10 rfl rfl ?_
    refine e_i2l dX11_pairs_11 ?_
    refine e_lconst (w := 0) dX11_pairs_12 (by decide) ?_
    refine e_lconst (w := 1) dX11_pairs_13 (by decide) ?_
    obtain ⟨r2, hg, hf⟩ := bO_some hf
    refine e_callS (as := [.long (Int32.toInt64 x2), .long 0, .long 1]) (v := (some (.int r2))) (s' := s) dX11_pairs_14 rfl rfl rfl rfl rfl (Nat.le_of_ble_eq_true rfl) (fun Q hQ => tX11_within (d := (d + 65)) hV  hg hQ) ?_
    refine e_if_ne 22 dX11_pairs_17 (by decide) hf (fun hf => ?_) (fun hf => ?_)
    · refine e_aload_n 0 dX11_pairs_22 rfl rfl ?_
      refine e_iload_n 1 dX11_pairs_23 rfl rfl ?_
      refine e_iconst (w := (nI 0)) dX11_pairs_24 (by decide) ?_
      obtain ⟨r3, hg, hf⟩ := bO_some hf
      refine e_callV (as := [.int x1, .int (nI 0)]) (v := (some (.int r3))) (s' := s) hV dX11_pairs_25 (Or.inl rfl) rfl rfl rfl rfl (Nat.le_of_ble_eq_true rfl) lx_X rfl rfl (fun Q hQ => tX11_rowIs (d := (d + 63)) hV  hg hQ) ?_
      refine e_if_ge 38 dX11_pairs_28 (by decide) hf (fun hf => ?_) (fun hf => ?_)
      · refine e_aload_n 0 dX11_pairs_38 rfl rfl ?_
        obtain ⟨s4, hg, hf⟩ := bO_some hf
        refine e_callV (as := []) (v := none) (s' := s4) hV dX11_pairs_39 (Or.inl rfl) rfl rfl rfl rfl (Nat.le_of_ble_eq_true rfl) lx_X rfl rfl (fun Q hQ => tX11_begins (d := (d + 65)) hV  hg hQ) ?_
        refine e_iconst (w := (nI 0)) dX11_pairs_42 (by decide) ?_
        refine e_istore_n dX11_pairs_43 rfl (by decide) hf (fun v5 hf => ?_)
        refine e_iconst (w := (nI 0)) dX11_pairs_44 (by decide) ?_
        refine e_istore dX11_pairs_45 (by decide) hf (fun v6 hf => ?_)
        refine e_bipush (w := (-2)) dX11_pairs_47 (by decide) ?_
        refine e_istore dX11_pairs_49 (by decide) hf (fun v7 hf => ?_)
        refine e_iconst (w := (nI 0)) dX11_pairs_51 (by decide) ?_
        refine e_istore dX11_pairs_52 (by decide) hf (fun v8 hf => ?_)
        refine e_pick [4, 5, 6, 3, 2, 1, 0] rfl ?_
        exact wX11_pairs_b54 hV hP mFu x1 x2 v5 v6 v7 v8 s4 hf
      · refine e_aload_n 0 dX11_pairs_31 rfl rfl ?_
        refine e_iload_n 1 dX11_pairs_32 rfl rfl ?_
        refine e_iconst (w := (nI 0)) dX11_pairs_33 (by decide) ?_
        obtain ⟨r19, hg, hf⟩ := bO_some hf
        refine e_callV (as := [.int x1, .int (nI 0)]) (v := (some (.int r19))) (s' := s) hV dX11_pairs_34 (Or.inl rfl) rfl rfl rfl rfl (Nat.le_of_ble_eq_true rfl) lx_X rfl rfl (fun Q hQ => tX11_rowIs (d := (d + 63)) hV  hg hQ) ?_
        obtain rfl := Option.some.inj hf
        exact e_iret dX11_pairs_37 trivial hP
    · refine e_iconst (w := (-1)) dX11_pairs_20 (by decide) ?_
      obtain rfl := Option.some.inj hf
      exact e_iret dX11_pairs_21 trivial hP

theorem dX11_between_0 : decode cX11_between 0 = .ok (.aload_n 0, 1) := by decide +kernel
theorem dX11_between_1 : decode cX11_between 1 = .ok (.iload_n 1, 1) := by decide +kernel
theorem dX11_between_2 : decode cX11_between 2 = .ok (.iconst 0, 1) := by decide +kernel
theorem dX11_between_3 : decode cX11_between 3 = .ok (.invokevirtual 227, 3) := by decide +kernel
theorem dX11_between_6 : decode cX11_between 6 = .ok (.iconst (-1), 1) := by decide +kernel
theorem dX11_between_7 : decode cX11_between 7 = .ok (.if_icmp .eq 20, 3) := by decide +kernel
theorem dX11_between_10 : decode cX11_between 10 = .ok (.aload_n 0, 1) := by decide +kernel
theorem dX11_between_11 : decode cX11_between 11 = .ok (.iload_n 2, 1) := by decide +kernel
theorem dX11_between_12 : decode cX11_between 12 = .ok (.invokevirtual 214, 3) := by decide +kernel
theorem dX11_between_15 : decode cX11_between 15 = .ok (.ifCond .eq 12, 3) := by decide +kernel
theorem dX11_between_18 : decode cX11_between 18 = .ok (.aload_n 0, 1) := by decide +kernel
theorem dX11_between_19 : decode cX11_between 19 = .ok (.iload_n 3, 1) := by decide +kernel
theorem dX11_between_20 : decode cX11_between 20 = .ok (.i2l, 1) := by decide +kernel
theorem dX11_between_21 : decode cX11_between 21 = .ok (.invokevirtual 100, 3) := by decide +kernel
theorem dX11_between_24 : decode cX11_between 24 = .ok (.ifCond .ne 5, 3) := by decide +kernel
theorem dX11_between_27 : decode cX11_between 27 = .ok (.iconst (-1), 1) := by decide +kernel
theorem dX11_between_28 : decode cX11_between 28 = .ok (.ireturn, 1) := by decide +kernel
theorem dX11_between_29 : decode cX11_between 29 = .ok (.aload_n 0, 1) := by decide +kernel
theorem dX11_between_30 : decode cX11_between 30 = .ok (.iload_n 1, 1) := by decide +kernel
theorem dX11_between_31 : decode cX11_between 31 = .ok (.iconst 0, 1) := by decide +kernel
theorem dX11_between_32 : decode cX11_between 32 = .ok (.invokevirtual 227, 3) := by decide +kernel
theorem dX11_between_35 : decode cX11_between 35 = .ok (.ifCond .ge 10, 3) := by decide +kernel
theorem dX11_between_38 : decode cX11_between 38 = .ok (.aload_n 0, 1) := by decide +kernel
theorem dX11_between_39 : decode cX11_between 39 = .ok (.iload_n 1, 1) := by decide +kernel
theorem dX11_between_40 : decode cX11_between 40 = .ok (.iconst 0, 1) := by decide +kernel
theorem dX11_between_41 : decode cX11_between 41 = .ok (.invokevirtual 227, 3) := by decide +kernel
theorem dX11_between_44 : decode cX11_between 44 = .ok (.ireturn, 1) := by decide +kernel
theorem dX11_between_45 : decode cX11_between 45 = .ok (.aload_n 0, 1) := by decide +kernel
theorem dX11_between_46 : decode cX11_between 46 = .ok (.invokevirtual 217, 3) := by decide +kernel
theorem dX11_between_49 : decode cX11_between 49 = .ok (.iconst 0, 1) := by decide +kernel
theorem dX11_between_50 : decode cX11_between 50 = .ok (.istore 4, 2) := by decide +kernel
theorem dX11_between_52 : decode cX11_between 52 = .ok (.iload 4, 2) := by decide +kernel
theorem dX11_between_54 : decode cX11_between 54 = .ok (.bipush 60, 2) := by decide +kernel
theorem dX11_between_56 : decode cX11_between 56 = .ok (.if_icmp .gt 37, 3) := by decide +kernel
theorem dX11_between_59 : decode cX11_between 59 = .ok (.aload_n 0, 1) := by decide +kernel
theorem dX11_between_60 : decode cX11_between 60 = .ok (.iload_n 1, 1) := by decide +kernel
theorem dX11_between_61 : decode cX11_between 61 = .ok (.iload_n 3, 1) := by decide +kernel
theorem dX11_between_62 : decode cX11_between 62 = .ok (.iload_n 2, 1) := by decide +kernel
theorem dX11_between_63 : decode cX11_between 63 = .ok (.bipush 10, 2) := by decide +kernel
theorem dX11_between_65 : decode cX11_between 65 = .ok (.irem, 1) := by decide +kernel
theorem dX11_between_66 : decode cX11_between 66 = .ok (.invokevirtual 248, 3) := by decide +kernel
theorem dX11_between_69 : decode cX11_between 69 = .ok (.ifCond .eq 6, 3) := by decide +kernel
theorem dX11_between_72 : decode cX11_between 72 = .ok (.iload 4, 2) := by decide +kernel
theorem dX11_between_74 : decode cX11_between 74 = .ok (.ireturn, 1) := by decide +kernel
theorem dX11_between_75 : decode cX11_between 75 = .ok (.aload_n 0, 1) := by decide +kernel
theorem dX11_between_76 : decode cX11_between 76 = .ok (.iload_n 2, 1) := by decide +kernel
theorem dX11_between_77 : decode cX11_between 77 = .ok (.bipush 10, 2) := by decide +kernel
theorem dX11_between_79 : decode cX11_between 79 = .ok (.idiv, 1) := by decide +kernel
theorem dX11_between_80 : decode cX11_between 80 = .ok (.iload_n 2, 1) := by decide +kernel
theorem dX11_between_81 : decode cX11_between 81 = .ok (.bipush 10, 2) := by decide +kernel
theorem dX11_between_83 : decode cX11_between 83 = .ok (.irem, 1) := by decide +kernel
theorem dX11_between_84 : decode cX11_between 84 = .ok (.invokevirtual 223, 3) := by decide +kernel
theorem dX11_between_87 : decode cX11_between 87 = .ok (.iinc 4 1, 3) := by decide +kernel
theorem dX11_between_90 : decode cX11_between 90 = .ok (.goto (-38), 3) := by decide +kernel
theorem dX11_between_93 : decode cX11_between 93 = .ok (.bipush (-2), 2) := by decide +kernel
theorem dX11_between_95 : decode cX11_between 95 = .ok (.ireturn, 1) := by decide +kernel
def fX11_between_b52 : Nat → Int32 → Int32 → Int32 → Int32 → mS → Option (Int32 × mS)
  | 0, _, _, _, _, _ => none
  | k + 1, y1, y2, y3, y4, s =>
    if (nI 60) < y4 then
      some ((-2), s)
    else
      bP (fX11_isSheet y1 y3 (y2 - y2 / (nI 10) * (nI 10)) s) fun r7 s8 =>
      if r7 = 0 then
        bO (fX11_typesOn (y2 / (nI 10)) (y2 - y2 / (nI 10) * (nI 10)) s8) fun s9 =>
        bnd (y4 + (nI 1)) fun v10 =>
        fX11_between_b52 k y1 y2 y3 v10 s9
      else
        some (y4, s8)

def fX11_between (x1 : Int32) (x2 : Int32) (x3 : Int32) (s : mS) : Option (Int32 × mS) :=
  bO (fX11_rowIs x1 (nI 0) s) fun r1 =>
  if r1 = (-1) then
    some ((-1), s)
  else
    bO (fX11_isWm x2 s) fun r2 =>
    if r2 = 0 then
      some ((-1), s)
    else
      bO (fX11_isWriter (Int32.toInt64 x3) s) fun r3 =>
      if r3 = 0 then
        some ((-1), s)
      else
        bO (fX11_rowIs x1 (nI 0) s) fun r4 =>
        if 0 ≤ r4 then
          bO (fX11_begins s) fun s5 =>
          bnd (nI 0) fun v6 =>
          fX11_between_b52 mFu x1 x2 x3 v6 s5
        else
          bO (fX11_rowIs x1 (nI 0) s) fun r11 =>
          some (r11, s)

set_option maxRecDepth 20000 in
theorem wX11_between_b52 {ρ : mRo} {d : Nat} {P : mPo} {V : mS → List mE} (hV : mView LX V)  {res : (Int32 × mS)} (hP : P (some (.int res.1)) (V res.2)) : ∀ (k : Nat) (y1 : Int32) (y2 : Int32) (y3 : Int32) (y4 : Int32) (s : mS), fX11_between_b52 k y1 y2 y3 y4 s = some res → mG ρ (mC ρ (d + 66)) 11 5 cX11_between (some .int) P 52 [(0, .ref qX), (1, .int y1), (2, .int y2), (3, .int y3), (4, .int y4)] [] (V s) := by
  intro k
  induction k with
  | zero => intro y1 y2 y3 y4 s hf; rw [fX11_between_b52] at hf; cases hf
  | succ k ih =>
    intro y1 y2 y3 y4 s hf
    rw [fX11_between_b52] at hf
    refine e_iload 4 dX11_between_52 rfl ?_
    refine e_bipush (w := (nI 60)) dX11_between_54 (by decide) ?_
    refine e_icmp_gt 93 dX11_between_56 (by decide) hf (fun hf => ?_) (fun hf => ?_)
    · refine e_bipush (w := (-2)) dX11_between_93 (by decide) ?_
      obtain rfl := Option.some.inj hf
      exact e_iret dX11_between_95 trivial hP
    · refine e_aload_n 0 dX11_between_59 rfl rfl ?_
      refine e_iload_n 1 dX11_between_60 rfl rfl ?_
      refine e_iload_n 3 dX11_between_61 rfl rfl ?_
      refine e_iload_n 2 dX11_between_62 rfl rfl ?_
      refine e_bipush (w := (nI 10)) dX11_between_63 (by decide) ?_
      refine e_irem dX11_between_65 (by decide) ?_
      obtain ⟨r7, s8, hg, hf⟩ := bP_some hf
      refine e_callV (as := [.int y1, .int y3, .int (y2 - y2 / (nI 10) * (nI 10))]) (v := (some (.int r7))) (s' := s8) hV dX11_between_66 (Or.inl rfl) rfl rfl rfl rfl (Nat.le_of_ble_eq_true rfl) lx_X rfl rfl (fun Q hQ => tX11_isSheet (d := d) hV  hg hQ) ?_
      refine e_if_eq 75 dX11_between_69 (by decide) hf (fun hf => ?_) (fun hf => ?_)
      · refine e_aload_n 0 dX11_between_75 rfl rfl ?_
        refine e_iload_n 2 dX11_between_76 rfl rfl ?_
        refine e_bipush (w := (nI 10)) dX11_between_77 (by decide) ?_
        refine e_idiv dX11_between_79 (by decide) ?_
        refine e_iload_n 2 dX11_between_80 rfl rfl ?_
        refine e_bipush (w := (nI 10)) dX11_between_81 (by decide) ?_
        refine e_irem dX11_between_83 (by decide) ?_
        obtain ⟨s9, hg, hf⟩ := bO_some hf
        refine e_callV (as := [.int (y2 / (nI 10)), .int (y2 - y2 / (nI 10) * (nI 10))]) (v := none) (s' := s9) hV dX11_between_84 (Or.inl rfl) rfl rfl rfl rfl (Nat.le_of_ble_eq_true rfl) lx_X rfl rfl (fun Q hQ => tX11_typesOn (d := (d + 64)) hV  hg hQ) ?_
        refine e_iinc 4 dX11_between_87 (by decide) rfl hf (fun v10 hf => ?_)
        refine e_goto 52 dX11_between_90 (by decide) ?_
        refine e_pick [1, 2, 3, 4, 0] rfl ?_
        exact ih y1 y2 y3 v10 s9 hf
      · refine e_iload 4 dX11_between_72 rfl ?_
        obtain rfl := Option.some.inj hf
        exact e_iret dX11_between_74 trivial hP
set_option maxRecDepth 20000 in
theorem tX11_between {ρ : mRo} {d : Nat} {P : mPo} {V : mS → List mE} (hV : mView LX V)  {x1 : Int32} {x2 : Int32} {x3 : Int32} {s : mS} {res : (Int32 × mS)} (hf : fX11_between x1 x2 x3 s = some res) (hP : P (some (.int res.1)) (V res.2)) : mC ρ (d + 67) 193 [.ref qX, .int x1, .int x2, .int x3] (V s) P := by
  refine ⟨_, rfl, Nat.le_of_ble_eq_true rfl, by decide, ?_⟩
  show mG ρ (mC ρ (d + 66)) 11 5 cX11_between (some .int) P 0 [(0, .ref qX), (1, .int x1), (2, .int x2), (3, .int x3)] [] (V s)
  unfold fX11_between at hf
  refine e_aload_n 0 dX11_between_0 rfl rfl ?_
  refine e_iload_n 1 dX11_between_1 rfl rfl ?_
  refine e_iconst (w := (nI 0)) dX11_between_2 (by decide) ?_
  obtain ⟨r1, hg, hf⟩ := bO_some hf
  refine e_callV (as := [.int x1, .int (nI 0)]) (v := (some (.int r1))) (s' := s) hV dX11_between_3 (Or.inl rfl) rfl rfl rfl rfl (Nat.le_of_ble_eq_true rfl) lx_X rfl rfl (fun Q hQ => tX11_rowIs (d := (d + 63)) hV  hg hQ) ?_
  refine e_iconst (w := (-1)) dX11_between_6 (by decide) ?_
  refine e_icmp_eq 27 dX11_between_7 (by decide) hf (fun hf => ?_) (fun hf => ?_)
  · refine e_iconst (w := (-1)) dX11_between_27 (by decide) ?_
    obtain rfl := Option.some.inj hf
    exact e_iret dX11_between_28 trivial hP
  · refine e_aload_n 0 dX11_between_10 rfl rfl ?_
    refine e_iload_n 2 dX11_between_11 rfl rfl ?_
    obtain ⟨r2, hg, hf⟩ := bO_some hf
    refine e_callV (as := [.int x2]) (v := (some (.int r2))) (s' := s) hV dX11_between_12 (Or.inl rfl) rfl rfl rfl rfl (Nat.le_of_ble_eq_true rfl) lx_X rfl rfl (fun Q hQ => tX11_isWm (d := (d + 63)) hV  hg hQ) ?_
    refine e_if_eq 27 dX11_between_15 (by decide) hf (fun hf => ?_) (fun hf => ?_)
    · refine e_iconst (w := (-1)) dX11_between_27 (by decide) ?_
      obtain rfl := Option.some.inj hf
      exact e_iret dX11_between_28 trivial hP
    · refine e_aload_n 0 dX11_between_18 rfl rfl ?_
      refine e_iload_n 3 dX11_between_19 rfl rfl ?_
      refine e_i2l dX11_between_20 ?_
      obtain ⟨r3, hg, hf⟩ := bO_some hf
      refine e_callV (as := [.long (Int32.toInt64 x3)]) (v := (some (.int r3))) (s' := s) hV dX11_between_21 (Or.inl rfl) rfl rfl rfl rfl (Nat.le_of_ble_eq_true rfl) lx_X rfl rfl (fun Q hQ => tX11_isWriter (d := (d + 64)) hV  hg hQ) ?_
      refine e_if_ne 29 dX11_between_24 (by decide) hf (fun hf => ?_) (fun hf => ?_)
      · refine e_aload_n 0 dX11_between_29 rfl rfl ?_
        refine e_iload_n 1 dX11_between_30 rfl rfl ?_
        refine e_iconst (w := (nI 0)) dX11_between_31 (by decide) ?_
        obtain ⟨r4, hg, hf⟩ := bO_some hf
        refine e_callV (as := [.int x1, .int (nI 0)]) (v := (some (.int r4))) (s' := s) hV dX11_between_32 (Or.inl rfl) rfl rfl rfl rfl (Nat.le_of_ble_eq_true rfl) lx_X rfl rfl (fun Q hQ => tX11_rowIs (d := (d + 63)) hV  hg hQ) ?_
        refine e_if_ge 45 dX11_between_35 (by decide) hf (fun hf => ?_) (fun hf => ?_)
        · refine e_aload_n 0 dX11_between_45 rfl rfl ?_
          obtain ⟨s5, hg, hf⟩ := bO_some hf
          refine e_callV (as := []) (v := none) (s' := s5) hV dX11_between_46 (Or.inl rfl) rfl rfl rfl rfl (Nat.le_of_ble_eq_true rfl) lx_X rfl rfl (fun Q hQ => tX11_begins (d := (d + 65)) hV  hg hQ) ?_
          refine e_iconst (w := (nI 0)) dX11_between_49 (by decide) ?_
          refine e_istore dX11_between_50 (by decide) hf (fun v6 hf => ?_)
          refine e_pick [1, 2, 3, 4, 0] rfl ?_
          exact wX11_between_b52 hV hP mFu x1 x2 x3 v6 s5 hf
        · refine e_aload_n 0 dX11_between_38 rfl rfl ?_
          refine e_iload_n 1 dX11_between_39 rfl rfl ?_
          refine e_iconst (w := (nI 0)) dX11_between_40 (by decide) ?_
          obtain ⟨r11, hg, hf⟩ := bO_some hf
          refine e_callV (as := [.int x1, .int (nI 0)]) (v := (some (.int r11))) (s' := s) hV dX11_between_41 (Or.inl rfl) rfl rfl rfl rfl (Nat.le_of_ble_eq_true rfl) lx_X rfl rfl (fun Q hQ => tX11_rowIs (d := (d + 63)) hV  hg hQ) ?_
          obtain rfl := Option.some.inj hf
          exact e_iret dX11_between_44 trivial hP
      · refine e_iconst (w := (-1)) dX11_between_27 (by decide) ?_
        obtain rfl := Option.some.inj hf
        exact e_iret dX11_between_28 trivial hP

theorem dX11_firstFalse_0 : decode cX11_firstFalse 0 = .ok (.iconst 0, 1) := by decide +kernel
theorem dX11_firstFalse_1 : decode cX11_firstFalse 1 = .ok (.istore 4, 2) := by decide +kernel
theorem dX11_firstFalse_3 : decode cX11_firstFalse 3 = .ok (.iconst 3, 1) := by decide +kernel
theorem dX11_firstFalse_4 : decode cX11_firstFalse 4 = .ok (.iload 4, 2) := by decide +kernel
theorem dX11_firstFalse_6 : decode cX11_firstFalse 6 = .ok (.imul, 1) := by decide +kernel
theorem dX11_firstFalse_7 : decode cX11_firstFalse 7 = .ok (.aload_n 0, 1) := by decide +kernel
theorem dX11_firstFalse_8 : decode cX11_firstFalse 8 = .ok (.getfield 71, 3) := by decide +kernel
theorem dX11_firstFalse_11 : decode cX11_firstFalse 11 = .ok (.iload_n 1, 1) := by decide +kernel
theorem dX11_firstFalse_12 : decode cX11_firstFalse 12 = .ok (.iaload, 1) := by decide +kernel
theorem dX11_firstFalse_13 : decode cX11_firstFalse 13 = .ok (.if_icmp .ge 134, 3) := by decide +kernel
theorem dX11_firstFalse_16 : decode cX11_firstFalse 16 = .ok (.bipush 60, 2) := by decide +kernel
theorem dX11_firstFalse_18 : decode cX11_firstFalse 18 = .ok (.iload_n 1, 1) := by decide +kernel
theorem dX11_firstFalse_19 : decode cX11_firstFalse 19 = .ok (.imul, 1) := by decide +kernel
theorem dX11_firstFalse_20 : decode cX11_firstFalse 20 = .ok (.iconst 3, 1) := by decide +kernel
theorem dX11_firstFalse_21 : decode cX11_firstFalse 21 = .ok (.iload 4, 2) := by decide +kernel
theorem dX11_firstFalse_23 : decode cX11_firstFalse 23 = .ok (.imul, 1) := by decide +kernel
theorem dX11_firstFalse_24 : decode cX11_firstFalse 24 = .ok (.iadd, 1) := by decide +kernel
theorem dX11_firstFalse_25 : decode cX11_firstFalse 25 = .ok (.istore 5, 2) := by decide +kernel
theorem dX11_firstFalse_27 : decode cX11_firstFalse 27 = .ok (.iconst 3, 1) := by decide +kernel
theorem dX11_firstFalse_28 : decode cX11_firstFalse 28 = .ok (.iload 4, 2) := by decide +kernel
theorem dX11_firstFalse_30 : decode cX11_firstFalse 30 = .ok (.imul, 1) := by decide +kernel
theorem dX11_firstFalse_31 : decode cX11_firstFalse 31 = .ok (.iconst 2, 1) := by decide +kernel
theorem dX11_firstFalse_32 : decode cX11_firstFalse 32 = .ok (.iadd, 1) := by decide +kernel
theorem dX11_firstFalse_33 : decode cX11_firstFalse 33 = .ok (.aload_n 0, 1) := by decide +kernel
theorem dX11_firstFalse_34 : decode cX11_firstFalse 34 = .ok (.getfield 71, 3) := by decide +kernel
theorem dX11_firstFalse_37 : decode cX11_firstFalse 37 = .ok (.iload_n 1, 1) := by decide +kernel
theorem dX11_firstFalse_38 : decode cX11_firstFalse 38 = .ok (.iaload, 1) := by decide +kernel
theorem dX11_firstFalse_39 : decode cX11_firstFalse 39 = .ok (.if_icmp .lt 6, 3) := by decide +kernel
theorem dX11_firstFalse_42 : decode cX11_firstFalse 42 = .ok (.iload 4, 2) := by decide +kernel
theorem dX11_firstFalse_44 : decode cX11_firstFalse 44 = .ok (.ireturn, 1) := by decide +kernel
theorem dX11_firstFalse_45 : decode cX11_firstFalse 45 = .ok (.iload 4, 2) := by decide +kernel
theorem dX11_firstFalse_47 : decode cX11_firstFalse 47 = .ok (.iload_n 2, 1) := by decide +kernel
theorem dX11_firstFalse_48 : decode cX11_firstFalse 48 = .ok (.if_icmp .ne 8, 3) := by decide +kernel
theorem dX11_firstFalse_51 : decode cX11_firstFalse 51 = .ok (.iload_n 3, 1) := by decide +kernel
theorem dX11_firstFalse_52 : decode cX11_firstFalse 52 = .ok (.i2l, 1) := by decide +kernel
theorem dX11_firstFalse_53 : decode cX11_firstFalse 53 = .ok (.goto 10, 3) := by decide +kernel
theorem dX11_firstFalse_56 : decode cX11_firstFalse 56 = .ok (.aload_n 0, 1) := by decide +kernel
theorem dX11_firstFalse_57 : decode cX11_firstFalse 57 = .ok (.getfield 74, 3) := by decide +kernel
theorem dX11_firstFalse_60 : decode cX11_firstFalse 60 = .ok (.iload 5, 2) := by decide +kernel
theorem dX11_firstFalse_62 : decode cX11_firstFalse 62 = .ok (.laload, 1) := by decide +kernel
theorem dX11_firstFalse_63 : decode cX11_firstFalse 63 = .ok (.lstore 6, 2) := by decide +kernel
theorem dX11_firstFalse_65 : decode cX11_firstFalse 65 = .ok (.aload_n 0, 1) := by decide +kernel
theorem dX11_firstFalse_66 : decode cX11_firstFalse 66 = .ok (.lload 6, 2) := by decide +kernel
theorem dX11_firstFalse_68 : decode cX11_firstFalse 68 = .ok (.invokevirtual 100, 3) := by decide +kernel
theorem dX11_firstFalse_71 : decode cX11_firstFalse 71 = .ok (.ifCond .eq 50, 3) := by decide +kernel
theorem dX11_firstFalse_74 : decode cX11_firstFalse 74 = .ok (.aload_n 0, 1) := by decide +kernel
theorem dX11_firstFalse_75 : decode cX11_firstFalse 75 = .ok (.aload_n 0, 1) := by decide +kernel
theorem dX11_firstFalse_76 : decode cX11_firstFalse 76 = .ok (.getfield 74, 3) := by decide +kernel
theorem dX11_firstFalse_79 : decode cX11_firstFalse 79 = .ok (.iload 5, 2) := by decide +kernel
theorem dX11_firstFalse_81 : decode cX11_firstFalse 81 = .ok (.iconst 1, 1) := by decide +kernel
theorem dX11_firstFalse_82 : decode cX11_firstFalse 82 = .ok (.iadd, 1) := by decide +kernel
theorem dX11_firstFalse_83 : decode cX11_firstFalse 83 = .ok (.laload, 1) := by decide +kernel
theorem dX11_firstFalse_84 : decode cX11_firstFalse 84 = .ok (.invokevirtual 104, 3) := by decide +kernel
theorem dX11_firstFalse_87 : decode cX11_firstFalse 87 = .ok (.ifCond .eq 34, 3) := by decide +kernel
theorem dX11_firstFalse_90 : decode cX11_firstFalse 90 = .ok (.aload_n 0, 1) := by decide +kernel
theorem dX11_firstFalse_91 : decode cX11_firstFalse 91 = .ok (.lload 6, 2) := by decide +kernel
theorem dX11_firstFalse_93 : decode cX11_firstFalse 93 = .ok (.l2i, 1) := by decide +kernel
theorem dX11_firstFalse_94 : decode cX11_firstFalse 94 = .ok (.aload_n 0, 1) := by decide +kernel
theorem dX11_firstFalse_95 : decode cX11_firstFalse 95 = .ok (.getfield 74, 3) := by decide +kernel
theorem dX11_firstFalse_98 : decode cX11_firstFalse 98 = .ok (.iload 5, 2) := by decide +kernel
theorem dX11_firstFalse_100 : decode cX11_firstFalse 100 = .ok (.iconst 1, 1) := by decide +kernel
theorem dX11_firstFalse_101 : decode cX11_firstFalse 101 = .ok (.iadd, 1) := by decide +kernel
theorem dX11_firstFalse_102 : decode cX11_firstFalse 102 = .ok (.laload, 1) := by decide +kernel
theorem dX11_firstFalse_103 : decode cX11_firstFalse 103 = .ok (.l2i, 1) := by decide +kernel
theorem dX11_firstFalse_104 : decode cX11_firstFalse 104 = .ok (.invokevirtual 237, 3) := by decide +kernel
theorem dX11_firstFalse_107 : decode cX11_firstFalse 107 = .ok (.i2l, 1) := by decide +kernel
theorem dX11_firstFalse_108 : decode cX11_firstFalse 108 = .ok (.aload_n 0, 1) := by decide +kernel
theorem dX11_firstFalse_109 : decode cX11_firstFalse 109 = .ok (.getfield 74, 3) := by decide +kernel
theorem dX11_firstFalse_112 : decode cX11_firstFalse 112 = .ok (.iload 5, 2) := by decide +kernel
theorem dX11_firstFalse_114 : decode cX11_firstFalse 114 = .ok (.iconst 2, 1) := by decide +kernel
theorem dX11_firstFalse_115 : decode cX11_firstFalse 115 = .ok (.iadd, 1) := by decide +kernel
theorem dX11_firstFalse_116 : decode cX11_firstFalse 116 = .ok (.laload, 1) := by decide +kernel
theorem dX11_firstFalse_117 : decode cX11_firstFalse 117 = .ok (.lcmp, 1) := by decide +kernel
theorem dX11_firstFalse_118 : decode cX11_firstFalse 118 = .ok (.ifCond .eq 6, 3) := by decide +kernel
theorem dX11_firstFalse_121 : decode cX11_firstFalse 121 = .ok (.iload 4, 2) := by decide +kernel
theorem dX11_firstFalse_123 : decode cX11_firstFalse 123 = .ok (.ireturn, 1) := by decide +kernel
theorem dX11_firstFalse_124 : decode cX11_firstFalse 124 = .ok (.aload_n 0, 1) := by decide +kernel
theorem dX11_firstFalse_125 : decode cX11_firstFalse 125 = .ok (.lload 6, 2) := by decide +kernel
theorem dX11_firstFalse_127 : decode cX11_firstFalse 127 = .ok (.l2i, 1) := by decide +kernel
theorem dX11_firstFalse_128 : decode cX11_firstFalse 128 = .ok (.aload_n 0, 1) := by decide +kernel
theorem dX11_firstFalse_129 : decode cX11_firstFalse 129 = .ok (.getfield 74, 3) := by decide +kernel
theorem dX11_firstFalse_132 : decode cX11_firstFalse 132 = .ok (.iload 5, 2) := by decide +kernel
theorem dX11_firstFalse_134 : decode cX11_firstFalse 134 = .ok (.iconst 1, 1) := by decide +kernel
theorem dX11_firstFalse_135 : decode cX11_firstFalse 135 = .ok (.iadd, 1) := by decide +kernel
theorem dX11_firstFalse_136 : decode cX11_firstFalse 136 = .ok (.laload, 1) := by decide +kernel
theorem dX11_firstFalse_137 : decode cX11_firstFalse 137 = .ok (.l2i, 1) := by decide +kernel
theorem dX11_firstFalse_138 : decode cX11_firstFalse 138 = .ok (.invokevirtual 223, 3) := by decide +kernel
theorem dX11_firstFalse_141 : decode cX11_firstFalse 141 = .ok (.iinc 4 1, 3) := by decide +kernel
theorem dX11_firstFalse_144 : decode cX11_firstFalse 144 = .ok (.goto (-141), 3) := by decide +kernel
theorem dX11_firstFalse_147 : decode cX11_firstFalse 147 = .ok (.bipush (-2), 2) := by decide +kernel
theorem dX11_firstFalse_149 : decode cX11_firstFalse 149 = .ok (.ireturn, 1) := by decide +kernel
def fX11_firstFalse_b63 (K3 : Int32 → Int32 → Int32 → Int32 → mS → Option (Int32 × mS)) (y1 : Int32) (y2 : Int32) (y3 : Int32) (y4 : Int32) (y5 : Int32) (z0 : Int64) (s : mS) : Option (Int32 × mS) :=
  bnd z0 fun v6 =>
  bO (fX11_isWriter v6 s) fun r7 =>
  if r7 = 0 then
    some (y4, s)
  else
    ldL s lX_items 360 (y5 + (nI 1)) fun v8 =>
    bO (fX11_isMachine v8 s) fun r9 =>
    if r9 = 0 then
      some (y4, s)
    else
      ldL s lX_items 360 (y5 + (nI 1)) fun v10 =>
      bP (fX11_codeOf (Int64.toInt32 v6) (Int64.toInt32 v10) s) fun r11 s12 =>
      ldL s12 lX_items 360 (y5 + (nI 2)) fun v13 =>
      if (lg_cmp (Int32.toInt64 r11) v13) = 0 then
        ldL s12 lX_items 360 (y5 + (nI 1)) fun v14 =>
        bO (fX11_typesOn (Int64.toInt32 v6) (Int64.toInt32 v14) s12) fun s15 =>
        bnd (y4 + (nI 1)) fun v16 =>
        K3 y1 y2 y3 v16 s15
      else
        some (y4, s12)

def fX11_firstFalse_b3 : Nat → Int32 → Int32 → Int32 → Int32 → mS → Option (Int32 × mS)
  | 0, _, _, _, _, _ => none
  | k + 1, y1, y2, y3, y4, s =>
    ldA s aX_many 6 y1 fun v2 =>
    if v2 ≤ ((nI 3) * y4) then
      some ((-2), s)
    else
      bnd (((nI 60) * y1) + ((nI 3) * y4)) fun v3 =>
      ldA s aX_many 6 y1 fun v4 =>
      if (((nI 3) * y4) + (nI 2)) < v4 then
        if y4 = y2 then
          fX11_firstFalse_b63 (fun u0 u1 u2 u3 u4 => fX11_firstFalse_b3 k u0 u1 u2 u3 u4) y1 y2 y3 y4 v3 (Int32.toInt64 y3) s
        else
          ldL s lX_items 360 v3 fun v5 =>
          fX11_firstFalse_b63 (fun u0 u1 u2 u3 u4 => fX11_firstFalse_b3 k u0 u1 u2 u3 u4) y1 y2 y3 y4 v3 v5 s
      else
        some (y4, s)

def fX11_firstFalse (x1 : Int32) (x2 : Int32) (x3 : Int32) (s : mS) : Option (Int32 × mS) :=
  bnd (nI 0) fun v1 =>
  fX11_firstFalse_b3 mFu x1 x2 x3 v1 s

set_option maxRecDepth 20000 in
theorem wX11_firstFalse_b63 {ρ : mRo} {d : Nat} {P : mPo} {V : mS → List mE} (hV : mView LX V)  {res : (Int32 × mS)} {K3 : Int32 → Int32 → Int32 → Int32 → mS → Option (Int32 × mS)} (hK3 : ∀ (y1 : Int32) (y2 : Int32) (y3 : Int32) (y4 : Int32) (s : mS), K3 y1 y2 y3 y4 s = some res → mG ρ (mC ρ (d + 66)) 11 8 cX11_firstFalse (some .int) P 3 [(0, .ref qX), (1, .int y1), (2, .int y2), (3, .int y3), (4, .int y4)] [] (V s)) (hP : P (some (.int res.1)) (V res.2)) (y1 : Int32) (y2 : Int32) (y3 : Int32) (y4 : Int32) (y5 : Int32) (z0 : Int64) (s : mS) (hf : fX11_firstFalse_b63 K3 y1 y2 y3 y4 y5 z0 s = some res) : mG ρ (mC ρ (d + 66)) 11 8 cX11_firstFalse (some .int) P 63 [(0, .ref qX), (1, .int y1), (2, .int y2), (3, .int y3), (4, .int y4), (5, .int y5)] [.long z0] (V s) := by
  unfold fX11_firstFalse_b63 at hf
  refine e_lstore dX11_firstFalse_63 (by decide) hf (fun v6 hf => ?_)
  refine e_aload_n 1 dX11_firstFalse_65 rfl rfl ?_
  refine e_lload 0 dX11_firstFalse_66 rfl ?_
  obtain ⟨r7, hg, hf⟩ := bO_some hf
  refine e_callV (as := [.long v6]) (v := (some (.int r7))) (s' := s) hV dX11_firstFalse_68 (Or.inl rfl) rfl rfl rfl rfl (Nat.le_of_ble_eq_true rfl) lx_X rfl rfl (fun Q hQ => tX11_isWriter (d := (d + 64)) hV  hg hQ) ?_
  refine e_if_eq 121 dX11_firstFalse_71 (by decide) hf (fun hf => ?_) (fun hf => ?_)
  · refine e_iload 5 dX11_firstFalse_121 rfl ?_
    obtain rfl := Option.some.inj hf
    exact e_iret dX11_firstFalse_123 trivial hP
  · refine e_aload_n 1 dX11_firstFalse_74 rfl rfl ?_
    refine e_aload_n 1 dX11_firstFalse_75 rfl rfl ?_
    refine e_getr hV dX11_firstFalse_76 rfl lx_X rfl ?_
    refine e_iload 6 dX11_firstFalse_79 rfl ?_
    refine e_iconst (w := (nI 1)) dX11_firstFalse_81 (by decide) ?_
    refine e_iadd dX11_firstFalse_82 ?_
    refine e_lald hV dX11_firstFalse_83 lx_X_items hf (fun v8 hf => ?_)
    obtain ⟨r9, hg, hf⟩ := bO_some hf
    refine e_callV (as := [.long v8]) (v := (some (.int r9))) (s' := s) hV dX11_firstFalse_84 (Or.inl rfl) rfl rfl rfl rfl (Nat.le_of_ble_eq_true rfl) lx_X rfl rfl (fun Q hQ => tX11_isMachine (d := (d + 64)) hV  hg hQ) ?_
    refine e_if_eq 121 dX11_firstFalse_87 (by decide) hf (fun hf => ?_) (fun hf => ?_)
    · refine e_iload 5 dX11_firstFalse_121 rfl ?_
      obtain rfl := Option.some.inj hf
      exact e_iret dX11_firstFalse_123 trivial hP
    · refine e_aload_n 1 dX11_firstFalse_90 rfl rfl ?_
      refine e_lload 0 dX11_firstFalse_91 rfl ?_
      refine e_l2i dX11_firstFalse_93 ?_
      refine e_aload_n 1 dX11_firstFalse_94 rfl rfl ?_
      refine e_getr hV dX11_firstFalse_95 rfl lx_X rfl ?_
      refine e_iload 6 dX11_firstFalse_98 rfl ?_
      refine e_iconst (w := (nI 1)) dX11_firstFalse_100 (by decide) ?_
      refine e_iadd dX11_firstFalse_101 ?_
      refine e_lald hV dX11_firstFalse_102 lx_X_items hf (fun v10 hf => ?_)
      refine e_l2i dX11_firstFalse_103 ?_
      obtain ⟨r11, s12, hg, hf⟩ := bP_some hf
      refine e_callV (as := [.int (Int64.toInt32 v6), .int (Int64.toInt32 v10)]) (v := (some (.int r11))) (s' := s12) hV dX11_firstFalse_104 (Or.inl rfl) rfl rfl rfl rfl (Nat.le_of_ble_eq_true rfl) lx_X rfl rfl (fun Q hQ => tX11_codeOf (d := d) hV  hg hQ) ?_
      refine e_i2l dX11_firstFalse_107 ?_
      refine e_aload_n 1 dX11_firstFalse_108 rfl rfl ?_
      refine e_getr hV dX11_firstFalse_109 rfl lx_X rfl ?_
      refine e_iload 6 dX11_firstFalse_112 rfl ?_
      refine e_iconst (w := (nI 2)) dX11_firstFalse_114 (by decide) ?_
      refine e_iadd dX11_firstFalse_115 ?_
      refine e_lald hV dX11_firstFalse_116 lx_X_items hf (fun v13 hf => ?_)
      refine e_lcmp dX11_firstFalse_117 ?_
      refine e_if_eq 124 dX11_firstFalse_118 (by decide) hf (fun hf => ?_) (fun hf => ?_)
      · refine e_aload_n 1 dX11_firstFalse_124 rfl rfl ?_
        refine e_lload 0 dX11_firstFalse_125 rfl ?_
        refine e_l2i dX11_firstFalse_127 ?_
        refine e_aload_n 1 dX11_firstFalse_128 rfl rfl ?_
        refine e_getr hV dX11_firstFalse_129 rfl lx_X rfl ?_
        refine e_iload 6 dX11_firstFalse_132 rfl ?_
        refine e_iconst (w := (nI 1)) dX11_firstFalse_134 (by decide) ?_
        refine e_iadd dX11_firstFalse_135 ?_
        refine e_lald hV dX11_firstFalse_136 lx_X_items hf (fun v14 hf => ?_)
        refine e_l2i dX11_firstFalse_137 ?_
        obtain ⟨s15, hg, hf⟩ := bO_some hf
        refine e_callV (as := [.int (Int64.toInt32 v6), .int (Int64.toInt32 v14)]) (v := none) (s' := s15) hV dX11_firstFalse_138 (Or.inl rfl) rfl rfl rfl rfl (Nat.le_of_ble_eq_true rfl) lx_X rfl rfl (fun Q hQ => tX11_typesOn (d := (d + 64)) hV  hg hQ) ?_
        refine e_iinc 5 dX11_firstFalse_141 (by decide) rfl hf (fun v16 hf => ?_)
        refine e_goto 3 dX11_firstFalse_144 (by decide) ?_
        refine e_pick [2, 3, 4, 5, 0] rfl ?_
        exact hK3 y1 y2 y3 v16 s15 hf
      · refine e_iload 5 dX11_firstFalse_121 rfl ?_
        obtain rfl := Option.some.inj hf
        exact e_iret dX11_firstFalse_123 trivial hP
set_option maxRecDepth 20000 in
theorem wX11_firstFalse_b3 {ρ : mRo} {d : Nat} {P : mPo} {V : mS → List mE} (hV : mView LX V)  {res : (Int32 × mS)} (hP : P (some (.int res.1)) (V res.2)) : ∀ (k : Nat) (y1 : Int32) (y2 : Int32) (y3 : Int32) (y4 : Int32) (s : mS), fX11_firstFalse_b3 k y1 y2 y3 y4 s = some res → mG ρ (mC ρ (d + 66)) 11 8 cX11_firstFalse (some .int) P 3 [(0, .ref qX), (1, .int y1), (2, .int y2), (3, .int y3), (4, .int y4)] [] (V s) := by
  intro k
  induction k with
  | zero => intro y1 y2 y3 y4 s hf; rw [fX11_firstFalse_b3] at hf; cases hf
  | succ k ih =>
    intro y1 y2 y3 y4 s hf
    rw [fX11_firstFalse_b3] at hf
    refine e_iconst (w := (nI 3)) dX11_firstFalse_3 (by decide) ?_
    refine e_iload 4 dX11_firstFalse_4 rfl ?_
    refine e_imul dX11_firstFalse_6 ?_
    refine e_aload_n 0 dX11_firstFalse_7 rfl rfl ?_
    refine e_getr hV dX11_firstFalse_8 rfl lx_X rfl ?_
    refine e_iload_n 1 dX11_firstFalse_11 rfl rfl ?_
    refine e_iald hV dX11_firstFalse_12 lx_X_many hf (fun v2 hf => ?_)
    refine e_icmp_ge 147 dX11_firstFalse_13 (by decide) hf (fun hf => ?_) (fun hf => ?_)
    · refine e_bipush (w := (-2)) dX11_firstFalse_147 (by decide) ?_
      obtain rfl := Option.some.inj hf
      exact e_iret dX11_firstFalse_149 trivial hP
    · refine e_bipush (w := (nI 60)) dX11_firstFalse_16 (by decide) ?_
      refine e_iload_n 1 dX11_firstFalse_18 rfl rfl ?_
      refine e_imul dX11_firstFalse_19 ?_
      refine e_iconst (w := (nI 3)) dX11_firstFalse_20 (by decide) ?_
      refine e_iload 4 dX11_firstFalse_21 rfl ?_
      refine e_imul dX11_firstFalse_23 ?_
      refine e_iadd dX11_firstFalse_24 ?_
      refine e_istore dX11_firstFalse_25 (by decide) hf (fun v3 hf => ?_)
      refine e_iconst (w := (nI 3)) dX11_firstFalse_27 (by decide) ?_
      refine e_iload 5 dX11_firstFalse_28 rfl ?_
      refine e_imul dX11_firstFalse_30 ?_
      refine e_iconst (w := (nI 2)) dX11_firstFalse_31 (by decide) ?_
      refine e_iadd dX11_firstFalse_32 ?_
      refine e_aload_n 1 dX11_firstFalse_33 rfl rfl ?_
      refine e_getr hV dX11_firstFalse_34 rfl lx_X rfl ?_
      refine e_iload_n 2 dX11_firstFalse_37 rfl rfl ?_
      refine e_iald hV dX11_firstFalse_38 lx_X_many hf (fun v4 hf => ?_)
      refine e_icmp_lt 45 dX11_firstFalse_39 (by decide) hf (fun hf => ?_) (fun hf => ?_)
      · refine e_iload 5 dX11_firstFalse_45 rfl ?_
        refine e_iload_n 3 dX11_firstFalse_47 rfl rfl ?_
        refine e_icmp_ne 56 dX11_firstFalse_48 (by decide) hf (fun hf => ?_) (fun hf => ?_)
        · refine e_aload_n 1 dX11_firstFalse_56 rfl rfl ?_
          refine e_getr hV dX11_firstFalse_57 rfl lx_X rfl ?_
          refine e_iload 0 dX11_firstFalse_60 rfl ?_
          refine e_lald hV dX11_firstFalse_62 lx_X_items hf (fun v5 hf => ?_)
          refine e_pick [1, 2, 3, 4, 5, 0] rfl ?_
          exact wX11_firstFalse_b63 hV ih hP y1 y2 y3 y4 v3 v5 s hf
        · refine e_iload_n 4 dX11_firstFalse_51 rfl rfl ?_
          refine e_i2l dX11_firstFalse_52 ?_
          refine e_goto 63 dX11_firstFalse_53 (by decide) ?_
          refine e_pick [1, 2, 3, 4, 5, 0] rfl ?_
          exact wX11_firstFalse_b63 hV ih hP y1 y2 y3 y4 v3 (Int32.toInt64 y3) s hf
      · refine e_iload 5 dX11_firstFalse_42 rfl ?_
        obtain rfl := Option.some.inj hf
        exact e_iret dX11_firstFalse_44 trivial hP
set_option maxRecDepth 20000 in
theorem tX11_firstFalse {ρ : mRo} {d : Nat} {P : mPo} {V : mS → List mE} (hV : mView LX V)  {x1 : Int32} {x2 : Int32} {x3 : Int32} {s : mS} {res : (Int32 × mS)} (hf : fX11_firstFalse x1 x2 x3 s = some res) (hP : P (some (.int res.1)) (V res.2)) : mC ρ (d + 67) 194 [.ref qX, .int x1, .int x2, .int x3] (V s) P := by
  refine ⟨_, rfl, Nat.le_of_ble_eq_true rfl, by decide, ?_⟩
  show mG ρ (mC ρ (d + 66)) 11 8 cX11_firstFalse (some .int) P 0 [(0, .ref qX), (1, .int x1), (2, .int x2), (3, .int x3)] [] (V s)
  unfold fX11_firstFalse at hf
  refine e_iconst (w := (nI 0)) dX11_firstFalse_0 (by decide) ?_
  refine e_istore dX11_firstFalse_1 (by decide) hf (fun v1 hf => ?_)
  refine e_pick [1, 2, 3, 4, 0] rfl ?_
  exact wX11_firstFalse_b3 hV hP mFu x1 x2 x3 v1 s hf

theorem dX11_judge_0 : decode cX11_judge 0 = .ok (.aload_n 0, 1) := by decide +kernel
theorem dX11_judge_1 : decode cX11_judge 1 = .ok (.iload_n 1, 1) := by decide +kernel
theorem dX11_judge_2 : decode cX11_judge 2 = .ok (.iconst 1, 1) := by decide +kernel
theorem dX11_judge_3 : decode cX11_judge 3 = .ok (.invokevirtual 227, 3) := by decide +kernel
theorem dX11_judge_6 : decode cX11_judge 6 = .ok (.ifCond .ge 10, 3) := by decide +kernel
theorem dX11_judge_9 : decode cX11_judge 9 = .ok (.aload_n 0, 1) := by decide +kernel
theorem dX11_judge_10 : decode cX11_judge 10 = .ok (.iload_n 1, 1) := by decide +kernel
theorem dX11_judge_11 : decode cX11_judge 11 = .ok (.iconst 1, 1) := by decide +kernel
theorem dX11_judge_12 : decode cX11_judge 12 = .ok (.invokevirtual 227, 3) := by decide +kernel
theorem dX11_judge_15 : decode cX11_judge 15 = .ok (.ireturn, 1) := by decide +kernel
theorem dX11_judge_16 : decode cX11_judge 16 = .ok (.aload_n 0, 1) := by decide +kernel
theorem dX11_judge_17 : decode cX11_judge 17 = .ok (.invokevirtual 217, 3) := by decide +kernel
theorem dX11_judge_20 : decode cX11_judge 20 = .ok (.aload_n 0, 1) := by decide +kernel
theorem dX11_judge_21 : decode cX11_judge 21 = .ok (.iload_n 1, 1) := by decide +kernel
theorem dX11_judge_22 : decode cX11_judge 22 = .ok (.iconst (-1), 1) := by decide +kernel
theorem dX11_judge_23 : decode cX11_judge 23 = .ok (.iconst 0, 1) := by decide +kernel
theorem dX11_judge_24 : decode cX11_judge 24 = .ok (.invokevirtual 252, 3) := by decide +kernel
theorem dX11_judge_27 : decode cX11_judge 27 = .ok (.ireturn, 1) := by decide +kernel
def fX11_judge (x1 : Int32) (s : mS) : Option (Int32 × mS) :=
  bO (fX11_rowIs x1 (nI 1) s) fun r1 =>
  if 0 ≤ r1 then
    bO (fX11_begins s) fun s2 =>
    bP (fX11_firstFalse x1 (-1) (nI 0) s2) fun r3 s4 =>
    some (r3, s4)
  else
    bO (fX11_rowIs x1 (nI 1) s) fun r5 =>
    some (r5, s)

set_option maxRecDepth 20000 in
theorem tX11_judge {ρ : mRo} {d : Nat} {P : mPo} {V : mS → List mE} (hV : mView LX V)  {x1 : Int32} {s : mS} {res : (Int32 × mS)} (hf : fX11_judge x1 s = some res) (hP : P (some (.int res.1)) (V res.2)) : mC ρ (d + 68) 195 [.ref qX, .int x1] (V s) P := by
  refine ⟨_, rfl, Nat.le_of_ble_eq_true rfl, by decide, ?_⟩
  show mG ρ (mC ρ (d + 67)) 11 2 cX11_judge (some .int) P 0 [(0, .ref qX), (1, .int x1)] [] (V s)
  unfold fX11_judge at hf
  refine e_aload_n 0 dX11_judge_0 rfl rfl ?_
  refine e_iload_n 1 dX11_judge_1 rfl rfl ?_
  refine e_iconst (w := (nI 1)) dX11_judge_2 (by decide) ?_
  obtain ⟨r1, hg, hf⟩ := bO_some hf
  refine e_callV (as := [.int x1, .int (nI 1)]) (v := (some (.int r1))) (s' := s) hV dX11_judge_3 (Or.inl rfl) rfl rfl rfl rfl (Nat.le_of_ble_eq_true rfl) lx_X rfl rfl (fun Q hQ => tX11_rowIs (d := (d + 64)) hV  hg hQ) ?_
  refine e_if_ge 16 dX11_judge_6 (by decide) hf (fun hf => ?_) (fun hf => ?_)
  · refine e_aload_n 0 dX11_judge_16 rfl rfl ?_
    obtain ⟨s2, hg, hf⟩ := bO_some hf
    refine e_callV (as := []) (v := none) (s' := s2) hV dX11_judge_17 (Or.inl rfl) rfl rfl rfl rfl (Nat.le_of_ble_eq_true rfl) lx_X rfl rfl (fun Q hQ => tX11_begins (d := (d + 66)) hV  hg hQ) ?_
    refine e_aload_n 0 dX11_judge_20 rfl rfl ?_
    refine e_iload_n 1 dX11_judge_21 rfl rfl ?_
    refine e_iconst (w := (-1)) dX11_judge_22 (by decide) ?_
    refine e_iconst (w := (nI 0)) dX11_judge_23 (by decide) ?_
    obtain ⟨r3, s4, hg, hf⟩ := bP_some hf
    refine e_callV (as := [.int x1, .int (-1), .int (nI 0)]) (v := (some (.int r3))) (s' := s4) hV dX11_judge_24 (Or.inl rfl) rfl rfl rfl rfl (Nat.le_of_ble_eq_true rfl) lx_X rfl rfl (fun Q hQ => tX11_firstFalse (d := d) hV  hg hQ) ?_
    obtain rfl := Option.some.inj hf
    exact e_iret dX11_judge_27 trivial hP
  · refine e_aload_n 0 dX11_judge_9 rfl rfl ?_
    refine e_iload_n 1 dX11_judge_10 rfl rfl ?_
    refine e_iconst (w := (nI 1)) dX11_judge_11 (by decide) ?_
    obtain ⟨r5, hg, hf⟩ := bO_some hf
    refine e_callV (as := [.int x1, .int (nI 1)]) (v := (some (.int r5))) (s' := s) hV dX11_judge_12 (Or.inl rfl) rfl rfl rfl rfl (Nat.le_of_ble_eq_true rfl) lx_X rfl rfl (fun Q hQ => tX11_rowIs (d := (d + 64)) hV  hg hQ) ?_
    obtain rfl := Option.some.inj hf
    exact e_iret dX11_judge_15 trivial hP
