-- bytecode to functions, by program (wip/gen/decomp.py)
theorem dX11_taken_0 : decode cX11_taken 0 = .ok (.iload_n 1, 1) := by decide +kernel
theorem dX11_taken_1 : decode cX11_taken 1 = .ok (.invokestatic 111, 3) := by decide +kernel
theorem dX11_taken_4 : decode cX11_taken 4 = .ok (.ifCond .eq 15, 3) := by decide +kernel
theorem dX11_taken_7 : decode cX11_taken 7 = .ok (.iload_n 2, 1) := by decide +kernel
theorem dX11_taken_8 : decode cX11_taken 8 = .ok (.i2l, 1) := by decide +kernel
theorem dX11_taken_9 : decode cX11_taken 9 = .ok (.lconst 0, 1) := by decide +kernel
theorem dX11_taken_10 : decode cX11_taken 10 = .ok (.ldc2_w 285, 3) := by decide +kernel
theorem dX11_taken_13 : decode cX11_taken 13 = .ok (.invokestatic 93, 3) := by decide +kernel
theorem dX11_taken_16 : decode cX11_taken 16 = .ok (.ifCond .ne 5, 3) := by decide +kernel
theorem dX11_taken_19 : decode cX11_taken 19 = .ok (.iconst (-1), 1) := by decide +kernel
theorem dX11_taken_20 : decode cX11_taken 20 = .ok (.ireturn, 1) := by decide +kernel
theorem dX11_taken_21 : decode cX11_taken 21 = .ok (.aload_n 0, 1) := by decide +kernel
theorem dX11_taken_22 : decode cX11_taken 22 = .ok (.getfield 68, 3) := by decide +kernel
theorem dX11_taken_25 : decode cX11_taken 25 = .ok (.iload_n 1, 1) := by decide +kernel
theorem dX11_taken_26 : decode cX11_taken 26 = .ok (.iaload, 1) := by decide +kernel
theorem dX11_taken_27 : decode cX11_taken 27 = .ok (.ifCond .ge 6, 3) := by decide +kernel
theorem dX11_taken_30 : decode cX11_taken 30 = .ok (.bipush (-11), 2) := by decide +kernel
theorem dX11_taken_32 : decode cX11_taken 32 = .ok (.ireturn, 1) := by decide +kernel
theorem dX11_taken_33 : decode cX11_taken 33 = .ok (.aload_n 0, 1) := by decide +kernel
theorem dX11_taken_34 : decode cX11_taken 34 = .ok (.getfield 68, 3) := by decide +kernel
theorem dX11_taken_37 : decode cX11_taken 37 = .ok (.iload_n 1, 1) := by decide +kernel
theorem dX11_taken_38 : decode cX11_taken 38 = .ok (.iaload, 1) := by decide +kernel
theorem dX11_taken_39 : decode cX11_taken 39 = .ok (.bipush 50, 2) := by decide +kernel
theorem dX11_taken_41 : decode cX11_taken 41 = .ok (.if_icmp .lt 6, 3) := by decide +kernel
theorem dX11_taken_44 : decode cX11_taken 44 = .ok (.bipush (-12), 2) := by decide +kernel
theorem dX11_taken_46 : decode cX11_taken 46 = .ok (.ireturn, 1) := by decide +kernel
theorem dX11_taken_47 : decode cX11_taken 47 = .ok (.aload_n 0, 1) := by decide +kernel
theorem dX11_taken_48 : decode cX11_taken 48 = .ok (.aload_n 0, 1) := by decide +kernel
theorem dX11_taken_49 : decode cX11_taken 49 = .ok (.getfield 68, 3) := by decide +kernel
theorem dX11_taken_52 : decode cX11_taken 52 = .ok (.iload_n 1, 1) := by decide +kernel
theorem dX11_taken_53 : decode cX11_taken 53 = .ok (.iaload, 1) := by decide +kernel
theorem dX11_taken_54 : decode cX11_taken 54 = .ok (.invokevirtual 328, 3) := by decide +kernel
theorem dX11_taken_57 : decode cX11_taken 57 = .ok (.istore_n 3, 1) := by decide +kernel
theorem dX11_taken_58 : decode cX11_taken 58 = .ok (.iload_n 3, 1) := by decide +kernel
theorem dX11_taken_59 : decode cX11_taken 59 = .ok (.iload_n 2, 1) := by decide +kernel
theorem dX11_taken_60 : decode cX11_taken 60 = .ok (.if_icmp .eq 15, 3) := by decide +kernel
theorem dX11_taken_63 : decode cX11_taken 63 = .ok (.iload_n 3, 1) := by decide +kernel
theorem dX11_taken_64 : decode cX11_taken 64 = .ok (.ifCond .le 11, 3) := by decide +kernel
theorem dX11_taken_67 : decode cX11_taken 67 = .ok (.iload_n 3, 1) := by decide +kernel
theorem dX11_taken_68 : decode cX11_taken 68 = .ok (.invokestatic 331, 3) := by decide +kernel
theorem dX11_taken_71 : decode cX11_taken 71 = .ok (.istore_n 3, 1) := by decide +kernel
theorem dX11_taken_72 : decode cX11_taken 72 = .ok (.goto (-14), 3) := by decide +kernel
theorem dX11_taken_75 : decode cX11_taken 75 = .ok (.iload_n 3, 1) := by decide +kernel
theorem dX11_taken_76 : decode cX11_taken 76 = .ok (.iload_n 2, 1) := by decide +kernel
theorem dX11_taken_77 : decode cX11_taken 77 = .ok (.if_icmp .ne 16, 3) := by decide +kernel
theorem dX11_taken_80 : decode cX11_taken 80 = .ok (.aload_n 0, 1) := by decide +kernel
theorem dX11_taken_81 : decode cX11_taken 81 = .ok (.aload_n 0, 1) := by decide +kernel
theorem dX11_taken_82 : decode cX11_taken 82 = .ok (.getfield 68, 3) := by decide +kernel
theorem dX11_taken_85 : decode cX11_taken 85 = .ok (.iload_n 1, 1) := by decide +kernel
theorem dX11_taken_86 : decode cX11_taken 86 = .ok (.iaload, 1) := by decide +kernel
theorem dX11_taken_87 : decode cX11_taken 87 = .ok (.invokevirtual 328, 3) := by decide +kernel
theorem dX11_taken_90 : decode cX11_taken 90 = .ok (.goto 5, 3) := by decide +kernel
theorem dX11_taken_93 : decode cX11_taken 93 = .ok (.bipush (-12), 2) := by decide +kernel
theorem dX11_taken_95 : decode cX11_taken 95 = .ok (.ireturn, 1) := by decide +kernel
def fX11_taken_b75 (y1 : Int32) (y2 : Int32) (y3 : Int32) (s : mS) : Option Int32 :=
  if y3 = y2 then
    ldA s aX_shelf 6 y1 fun v8 =>
    bO (fX11_kindOf v8 s) fun r9 =>
    some r9
  else
    some (-12)

def fX11_taken_b58 : Nat → Int32 → Int32 → Int32 → mS → Option Int32
  | 0, _, _, _, _ => none
  | k + 1, y1, y2, y3, s =>
    if y3 = y2 then
      fX11_taken_b75 y1 y2 y3 s
    else
      if y3 ≤ 0 then
        fX11_taken_b75 y1 y2 y3 s
      else
        bO (fX11_above y3 s) fun r10 =>
        bnd r10 fun v11 =>
        fX11_taken_b58 k y1 y2 v11 s

def fX11_taken (x1 : Int32) (x2 : Int32) (s : mS) : Option Int32 :=
  bO (fX11_isShelf x1 s) fun r1 =>
  if r1 = 0 then
    some (-1)
  else
    bO (fX11_within (Int32.toInt64 x2) 0 7 s) fun r2 =>
    if r2 = 0 then
      some (-1)
    else
      ldA s aX_shelf 6 x1 fun v3 =>
      if 0 ≤ v3 then
        ldA s aX_shelf 6 x1 fun v4 =>
        if v4 < 50 then
          ldA s aX_shelf 6 x1 fun v5 =>
          bO (fX11_kindOf v5 s) fun r6 =>
          bnd r6 fun v7 =>
          fX11_taken_b58 mFu x1 x2 v7 s
        else
          some (-12)
      else
        some (-11)

set_option maxRecDepth 20000 in
theorem wX11_taken_b75 {ρ : mRo} {d : Nat} {P : mPo} {V : mS → List mE} (hV : mView LX V)  {res : Int32} {s : mS} (hP : P (some (.int res)) (V s)) (y1 : Int32) (y2 : Int32) (y3 : Int32) (hf : fX11_taken_b75 y1 y2 y3 s = some res) : mG ρ (mC ρ (d + 2)) 11 4 cX11_taken (some .int) P 75 [(0, .ref qX), (1, .int y1), (2, .int y2), (3, .int y3)] [] (V s) := by
  unfold fX11_taken_b75 at hf
  refine e_iload_n 3 dX11_taken_75 rfl rfl ?_
  refine e_iload_n 2 dX11_taken_76 rfl rfl ?_
  refine e_icmp_ne 93 dX11_taken_77 (by decide) hf (fun hf => ?_) (fun hf => ?_)
  · refine e_bipush (w := (-12)) dX11_taken_93 (by decide) ?_
    cases hf
    exact e_iret dX11_taken_95 trivial hP
  · refine e_aload_n 0 dX11_taken_80 rfl rfl ?_
    refine e_aload_n 0 dX11_taken_81 rfl rfl ?_
    refine e_getr hV dX11_taken_82 rfl lx_X rfl ?_
    refine e_iload_n 1 dX11_taken_85 rfl rfl ?_
    refine e_iald hV dX11_taken_86 lx_X_shelf hf (fun v8 hf => ?_)
    obtain ⟨r9, hg, hf⟩ := bO_some hf
    refine e_callV (as := [.int v8]) (v := (some (.int r9))) (s' := s) hV dX11_taken_87 (Or.inl rfl) rfl rfl rfl rfl (Nat.le_of_ble_eq_true rfl) lx_X rfl rfl (fun Q hQ => tX11_kindOf (d := (d + 1)) hV  hg hQ) ?_
    refine e_goto 95 dX11_taken_90 (by decide) ?_
    cases hf
    exact e_iret dX11_taken_95 trivial hP
set_option maxRecDepth 20000 in
theorem wX11_taken_b58 {ρ : mRo} {d : Nat} {P : mPo} {V : mS → List mE} (hV : mView LX V)  {res : Int32} {s : mS} (hP : P (some (.int res)) (V s)) : ∀ (k : Nat) (y1 : Int32) (y2 : Int32) (y3 : Int32), fX11_taken_b58 k y1 y2 y3 s = some res → mG ρ (mC ρ (d + 2)) 11 4 cX11_taken (some .int) P 58 [(0, .ref qX), (1, .int y1), (2, .int y2), (3, .int y3)] [] (V s) := by
  intro k
  induction k with
  | zero => intro y1 y2 y3 hf; rw [fX11_taken_b58] at hf; cases hf
  | succ k ih =>
    intro y1 y2 y3 hf
    rw [fX11_taken_b58] at hf
    refine e_iload_n 3 dX11_taken_58 rfl rfl ?_
    refine e_iload_n 2 dX11_taken_59 rfl rfl ?_
    refine e_icmp_eq 75 dX11_taken_60 (by decide) hf (fun hf => ?_) (fun hf => ?_)
    · refine e_pick [0, 1, 2, 3] rfl ?_
      exact wX11_taken_b75 hV hP y1 y2 y3 hf
    · refine e_iload_n 3 dX11_taken_63 rfl rfl ?_
      refine e_if_le 75 dX11_taken_64 (by decide) hf (fun hf => ?_) (fun hf => ?_)
      · refine e_pick [0, 1, 2, 3] rfl ?_
        exact wX11_taken_b75 hV hP y1 y2 y3 hf
      · refine e_iload_n 3 dX11_taken_67 rfl rfl ?_
        obtain ⟨r10, hg, hf⟩ := bO_some hf
        refine e_callS (as := [.int y3]) (v := (some (.int r10))) (s' := s) dX11_taken_68 rfl rfl rfl rfl rfl (Nat.le_of_ble_eq_true rfl) (fun Q hQ => tX11_above (d := (d + 1)) hV  hg hQ) ?_
        refine e_istore_n dX11_taken_71 rfl (by decide) hf (fun v11 hf => ?_)
        refine e_goto 58 dX11_taken_72 (by decide) ?_
        refine e_pick [1, 2, 3, 0] rfl ?_
        exact ih y1 y2 v11 hf
set_option maxRecDepth 20000 in
theorem tX11_taken {ρ : mRo} {d : Nat} {P : mPo} {V : mS → List mE} (hV : mView LX V)  {x1 : Int32} {x2 : Int32} {s : mS} {res : Int32} (hf : fX11_taken x1 x2 s = some res) (hP : P (some (.int res)) (V s)) : mC ρ (d + 3) 230 [.ref qX, .int x1, .int x2] (V s) P := by
  refine ⟨_, rfl, Nat.le_of_ble_eq_true rfl, by decide, ?_⟩
  show mG ρ (mC ρ (d + 2)) 11 4 cX11_taken (some .int) P 0 [(0, .ref qX), (1, .int x1), (2, .int x2)] [] (V s)
  unfold fX11_taken at hf
  refine e_iload_n 1 dX11_taken_0 rfl rfl ?_
  obtain ⟨r1, hg, hf⟩ := bO_some hf
  refine e_callS (as := [.int x1]) (v := (some (.int r1))) (s' := s) dX11_taken_1 rfl rfl rfl rfl rfl (Nat.le_of_ble_eq_true rfl) (fun Q hQ => tX11_isShelf (d := d) hV  hg hQ) ?_
  refine e_if_eq 19 dX11_taken_4 (by decide) hf (fun hf => ?_) (fun hf => ?_)
  · refine e_iconst (w := (-1)) dX11_taken_19 (by decide) ?_
    cases hf
    exact e_iret dX11_taken_20 trivial hP
  · refine e_iload_n 2 dX11_taken_7 rfl rfl ?_
    refine e_i2l dX11_taken_8 ?_
    refine e_lconst (w := 0) dX11_taken_9 (by decide) ?_
    refine e_ldc2_w (w := 7) dX11_taken_10 rfl ?_
    obtain ⟨r2, hg, hf⟩ := bO_some hf
    refine e_callS (as := [.long (Int32.toInt64 x2), .long 0, .long 7]) (v := (some (.int r2))) (s' := s) dX11_taken_13 rfl rfl rfl rfl rfl (Nat.le_of_ble_eq_true rfl) (fun Q hQ => tX11_within (d := (d + 1)) hV  hg hQ) ?_
    refine e_if_ne 21 dX11_taken_16 (by decide) hf (fun hf => ?_) (fun hf => ?_)
    · refine e_aload_n 0 dX11_taken_21 rfl rfl ?_
      refine e_getr hV dX11_taken_22 rfl lx_X rfl ?_
      refine e_iload_n 1 dX11_taken_25 rfl rfl ?_
      refine e_iald hV dX11_taken_26 lx_X_shelf hf (fun v3 hf => ?_)
      refine e_if_ge 33 dX11_taken_27 (by decide) hf (fun hf => ?_) (fun hf => ?_)
      · refine e_aload_n 0 dX11_taken_33 rfl rfl ?_
        refine e_getr hV dX11_taken_34 rfl lx_X rfl ?_
        refine e_iload_n 1 dX11_taken_37 rfl rfl ?_
        refine e_iald hV dX11_taken_38 lx_X_shelf hf (fun v4 hf => ?_)
        refine e_bipush (w := 50) dX11_taken_39 (by decide) ?_
        refine e_icmp_lt 47 dX11_taken_41 (by decide) hf (fun hf => ?_) (fun hf => ?_)
        · refine e_aload_n 0 dX11_taken_47 rfl rfl ?_
          refine e_aload_n 0 dX11_taken_48 rfl rfl ?_
          refine e_getr hV dX11_taken_49 rfl lx_X rfl ?_
          refine e_iload_n 1 dX11_taken_52 rfl rfl ?_
          refine e_iald hV dX11_taken_53 lx_X_shelf hf (fun v5 hf => ?_)
          obtain ⟨r6, hg, hf⟩ := bO_some hf
          refine e_callV (as := [.int v5]) (v := (some (.int r6))) (s' := s) hV dX11_taken_54 (Or.inl rfl) rfl rfl rfl rfl (Nat.le_of_ble_eq_true rfl) lx_X rfl rfl (fun Q hQ => tX11_kindOf (d := (d + 1)) hV  hg hQ) ?_
          refine e_istore_n dX11_taken_57 rfl (by decide) hf (fun v7 hf => ?_)
          refine e_pick [1, 2, 3, 0] rfl ?_
          exact wX11_taken_b58 hV hP mFu x1 x2 v7 hf
        · refine e_bipush (w := (-12)) dX11_taken_44 (by decide) ?_
          cases hf
          exact e_iret dX11_taken_46 trivial hP
      · refine e_bipush (w := (-11)) dX11_taken_30 (by decide) ?_
        cases hf
        exact e_iret dX11_taken_32 trivial hP
    · refine e_iconst (w := (-1)) dX11_taken_19 (by decide) ?_
      cases hf
      exact e_iret dX11_taken_20 trivial hP

theorem dX11_count_0 : decode cX11_count 0 = .ok (.iload_n 1, 1) := by decide +kernel
theorem dX11_count_1 : decode cX11_count 1 = .ok (.tableswitch 69 0 5 #[39, 44, 49, 54, 59, 64], 39) := by decide +kernel
theorem dX11_count_40 : decode cX11_count 40 = .ok (.aload_n 0, 1) := by decide +kernel
theorem dX11_count_41 : decode cX11_count 41 = .ok (.getfield 90, 3) := by decide +kernel
theorem dX11_count_44 : decode cX11_count 44 = .ok (.ireturn, 1) := by decide +kernel
theorem dX11_count_45 : decode cX11_count 45 = .ok (.aload_n 0, 1) := by decide +kernel
theorem dX11_count_46 : decode cX11_count 46 = .ok (.getfield 97, 3) := by decide +kernel
theorem dX11_count_49 : decode cX11_count 49 = .ok (.ireturn, 1) := by decide +kernel
theorem dX11_count_50 : decode cX11_count 50 = .ok (.aload_n 0, 1) := by decide +kernel
theorem dX11_count_51 : decode cX11_count 51 = .ok (.getfield 142, 3) := by decide +kernel
theorem dX11_count_54 : decode cX11_count 54 = .ok (.ireturn, 1) := by decide +kernel
theorem dX11_count_55 : decode cX11_count 55 = .ok (.aload_n 0, 1) := by decide +kernel
theorem dX11_count_56 : decode cX11_count 56 = .ok (.getfield 84, 3) := by decide +kernel
theorem dX11_count_59 : decode cX11_count 59 = .ok (.ireturn, 1) := by decide +kernel
theorem dX11_count_60 : decode cX11_count 60 = .ok (.aload_n 0, 1) := by decide +kernel
theorem dX11_count_61 : decode cX11_count 61 = .ok (.getfield 282, 3) := by decide +kernel
theorem dX11_count_64 : decode cX11_count 64 = .ok (.ireturn, 1) := by decide +kernel
theorem dX11_count_65 : decode cX11_count 65 = .ok (.aload_n 0, 1) := by decide +kernel
theorem dX11_count_66 : decode cX11_count 66 = .ok (.getfield 287, 3) := by decide +kernel
theorem dX11_count_69 : decode cX11_count 69 = .ok (.ireturn, 1) := by decide +kernel
theorem dX11_count_70 : decode cX11_count 70 = .ok (.iconst (-1), 1) := by decide +kernel
theorem dX11_count_71 : decode cX11_count 71 = .ok (.ireturn, 1) := by decide +kernel
def fX11_count (x1 : Int32) (s : mS) : Option Int32 :=
  if x1 = 0 then
    some (gI s iX_machines)
  else if x1 = 1 then
    some (gI s iX_writers)
  else if x1 = 2 then
    some (gI s iX_tapeMany)
  else if x1 = 3 then
    some (gI s iX_done)
  else if x1 = 4 then
    some (gI s iX_bodies)
  else if x1 = 5 then
    some (gI s iX_ran)
  else
    some (-1)

set_option maxRecDepth 20000 in
theorem tX11_count {ρ : mRo} {d : Nat} {P : mPo} {V : mS → List mE} (hV : mView LX V)  {x1 : Int32} {s : mS} {res : Int32} (hf : fX11_count x1 s = some res) (hP : P (some (.int res)) (V s)) : mC ρ (d + 1) 231 [.ref qX, .int x1] (V s) P := by
  refine ⟨_, rfl, Nat.le_of_ble_eq_true rfl, by decide, ?_⟩
  show mG ρ (mC ρ d) 11 2 cX11_count (some .int) P 0 [(0, .ref qX), (1, .int x1)] [] (V s)
  unfold fX11_count at hf
  refine e_iload_n 1 dX11_count_0 rfl rfl ?_
  by_cases hc0 : x1 = 0
  · rw [if_pos hc0] at hf
    refine e_tabI (off := 39) (tgt := 40) dX11_count_1 hc0 (by decide) (by decide) ?_
    refine e_aload_n 0 dX11_count_40 rfl rfl ?_
    refine e_geti hV dX11_count_41 rfl lx_X rfl ?_
    cases hf
    exact e_iret dX11_count_44 trivial hP
  rw [if_neg hc0] at hf
  by_cases hc1 : x1 = 1
  · rw [if_pos hc1] at hf
    refine e_tabI (off := 44) (tgt := 45) dX11_count_1 hc1 (by decide) (by decide) ?_
    refine e_aload_n 0 dX11_count_45 rfl rfl ?_
    refine e_geti hV dX11_count_46 rfl lx_X rfl ?_
    cases hf
    exact e_iret dX11_count_49 trivial hP
  rw [if_neg hc1] at hf
  by_cases hc2 : x1 = 2
  · rw [if_pos hc2] at hf
    refine e_tabI (off := 49) (tgt := 50) dX11_count_1 hc2 (by decide) (by decide) ?_
    refine e_aload_n 0 dX11_count_50 rfl rfl ?_
    refine e_geti hV dX11_count_51 rfl lx_X rfl ?_
    cases hf
    exact e_iret dX11_count_54 trivial hP
  rw [if_neg hc2] at hf
  by_cases hc3 : x1 = 3
  · rw [if_pos hc3] at hf
    refine e_tabI (off := 54) (tgt := 55) dX11_count_1 hc3 (by decide) (by decide) ?_
    refine e_aload_n 0 dX11_count_55 rfl rfl ?_
    refine e_geti hV dX11_count_56 rfl lx_X rfl ?_
    cases hf
    exact e_iret dX11_count_59 trivial hP
  rw [if_neg hc3] at hf
  by_cases hc4 : x1 = 4
  · rw [if_pos hc4] at hf
    refine e_tabI (off := 59) (tgt := 60) dX11_count_1 hc4 (by decide) (by decide) ?_
    refine e_aload_n 0 dX11_count_60 rfl rfl ?_
    refine e_geti hV dX11_count_61 rfl lx_X rfl ?_
    cases hf
    exact e_iret dX11_count_64 trivial hP
  rw [if_neg hc4] at hf
  by_cases hc5 : x1 = 5
  · rw [if_pos hc5] at hf
    refine e_tabI (off := 64) (tgt := 65) dX11_count_1 hc5 (by decide) (by decide) ?_
    refine e_aload_n 0 dX11_count_65 rfl rfl ?_
    refine e_geti hV dX11_count_66 rfl lx_X rfl ?_
    cases hf
    exact e_iret dX11_count_69 trivial hP
  rw [if_neg hc5] at hf
  refine e_tabD (tgt := 70) (ks := [0, 1, 2, 3, 4, 5]) dX11_count_1 (by decide) (fun z hz => ?_) ?_
  · simp only [List.mem_cons, List.not_mem_nil, or_false] at hz
    rcases hz with rfl | rfl | rfl | rfl | rfl | rfl
    · exact hc0
    · exact hc1
    · exact hc2
    · exact hc3
    · exact hc4
    · exact hc5
  refine e_iconst (w := (-1)) dX11_count_70 (by decide) ?_
  cases hf
  exact e_iret dX11_count_71 trivial hP
