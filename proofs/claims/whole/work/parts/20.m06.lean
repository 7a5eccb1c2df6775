-- bytecode to functions, by program (wip/gen/decomp.py)
theorem dX10_act_0 : decode cX10_act 0 = .ok (.aload_n 0, 1) := by decide +kernel
theorem dX10_act_1 : decode cX10_act 1 = .ok (.getfield 56, 3) := by decide +kernel
theorem dX10_act_4 : decode cX10_act 4 = .ok (.iconst 0, 1) := by decide +kernel
theorem dX10_act_5 : decode cX10_act 5 = .ok (.putfield 344, 3) := by decide +kernel
theorem dX10_act_8 : decode cX10_act 8 = .ok (.aload_n 0, 1) := by decide +kernel
theorem dX10_act_9 : decode cX10_act 9 = .ok (.getfield 56, 3) := by decide +kernel
theorem dX10_act_12 : decode cX10_act 12 = .ok (.iload_n 1, 1) := by decide +kernel
theorem dX10_act_13 : decode cX10_act 13 = .ok (.invokevirtual 347, 3) := by decide +kernel
theorem dX10_act_16 : decode cX10_act 16 = .ok (.ifCond .eq 12, 3) := by decide +kernel
theorem dX10_act_19 : decode cX10_act 19 = .ok (.iload_n 2, 1) := by decide +kernel
theorem dX10_act_20 : decode cX10_act 20 = .ok (.ifCond .lt 8, 3) := by decide +kernel
theorem dX10_act_23 : decode cX10_act 23 = .ok (.iload_n 2, 1) := by decide +kernel
theorem dX10_act_24 : decode cX10_act 24 = .ok (.iconst 4, 1) := by decide +kernel
theorem dX10_act_25 : decode cX10_act 25 = .ok (.if_icmp .lt 5, 3) := by decide +kernel
theorem dX10_act_28 : decode cX10_act 28 = .ok (.iconst 0, 1) := by decide +kernel
theorem dX10_act_29 : decode cX10_act 29 = .ok (.ireturn, 1) := by decide +kernel
theorem dX10_act_30 : decode cX10_act 30 = .ok (.aload_n 0, 1) := by decide +kernel
theorem dX10_act_31 : decode cX10_act 31 = .ok (.getfield 56, 3) := by decide +kernel
theorem dX10_act_34 : decode cX10_act 34 = .ok (.iload_n 1, 1) := by decide +kernel
theorem dX10_act_35 : decode cX10_act 35 = .ok (.aload_n 0, 1) := by decide +kernel
theorem dX10_act_36 : decode cX10_act 36 = .ok (.getfield 56, 3) := by decide +kernel
theorem dX10_act_39 : decode cX10_act 39 = .ok (.getfield 348, 3) := by decide +kernel
theorem dX10_act_42 : decode cX10_act 42 = .ok (.iload_n 1, 1) := by decide +kernel
theorem dX10_act_43 : decode cX10_act 43 = .ok (.iaload, 1) := by decide +kernel
theorem dX10_act_44 : decode cX10_act 44 = .ok (.iload_n 2, 1) := by decide +kernel
theorem dX10_act_45 : decode cX10_act 45 = .ok (.iload_n 3, 1) := by decide +kernel
theorem dX10_act_46 : decode cX10_act 46 = .ok (.iconst 0, 1) := by decide +kernel
theorem dX10_act_47 : decode cX10_act 47 = .ok (.invokevirtual 351, 3) := by decide +kernel
theorem dX10_act_50 : decode cX10_act 50 = .ok (.ireturn, 1) := by decide +kernel
def fX10_act (x1 : Int32) (x2 : Int32) (x3 : Int32) (s : mS) : Option (Int32 × mS) :=
  bnd (pI s iU_ran (nI 0)) fun s1 =>
  bO (fX3_has x1 s1) fun r2 =>
  if r2 = 0 then
    some ((nI 0), s1)
  else
    if x2 < 0 then
      some ((nI 0), s1)
    else
      if x2 < (nI 4) then
        ldA s1 aU_kinds 50 x1 fun v3 =>
        bP (fX3_perform x1 v3 x2 x3 (nI 0) s1) fun r4 s5 =>
        some (r4, s5)
      else
        some ((nI 0), s1)

set_option maxRecDepth 20000 in
theorem tX10_act {ρ : mRo} {d : Nat} {P : mPo} {V : mS → List mE} (hV : mView LC V) (hr : mRoC ρ)  {x1 : Int32} {x2 : Int32} {x3 : Int32} {s : mS} {res : (Int32 × mS)} (hf : fX10_act x1 x2 x3 s = some res) (hP : P (some (.int res.1)) (V res.2)) : mC ρ (d + 62) 101 [.ref qT, .int x1, .int x2, .int x3] (V s) P := by
  refine ⟨_, rfl, Nat.le_of_ble_eq_true rfl, by decide, ?_⟩
  show mG ρ (mC ρ (d + 61)) 10 4 cX10_act (some .int) P 0 [(0, .ref qT), (1, .int x1), (2, .int x2), (3, .int x3)] [] (V s)
  unfold fX10_act at hf
  refine e_aload_n 0 dX10_act_0 rfl rfl ?_
  refine e_getr hV dX10_act_1 rfl lc_T rfl ?_
  refine e_iconst (w := (nI 0)) dX10_act_4 (by decide) ?_
  refine e_puti hV dX10_act_5 rfl rfl rfl (Or.inl rfl) lc_U rfl hf (fun s1 hf => ?_)
  refine e_aload_n 0 dX10_act_8 rfl rfl ?_
  refine e_getr hV dX10_act_9 rfl lc_T rfl ?_
  refine e_iload_n 1 dX10_act_12 rfl rfl ?_
  obtain ⟨r2, hg, hf⟩ := bO_some hf
  refine e_callV (as := [.int x1]) (v := (some (.int r2))) (s' := s1) hV dX10_act_13 (Or.inl rfl) rfl rfl rfl rfl (Nat.le_of_ble_eq_true rfl) lc_U rfl rfl (fun Q hQ => tX3_has (d := (d + 60)) hV  hg hQ) ?_
  refine e_if_eq 28 dX10_act_16 (by decide) hf (fun hf => ?_) (fun hf => ?_)
  · refine e_iconst (w := (nI 0)) dX10_act_28 (by decide) ?_
    obtain rfl := Option.some.inj hf
    exact e_iret dX10_act_29 trivial hP
  · refine e_iload_n 2 dX10_act_19 rfl rfl ?_
    refine e_if_lt 28 dX10_act_20 (by decide) hf (fun hf => ?_) (fun hf => ?_)
    · refine e_iconst (w := (nI 0)) dX10_act_28 (by decide) ?_
      obtain rfl := Option.some.inj hf
      exact e_iret dX10_act_29 trivial hP
    · refine e_iload_n 2 dX10_act_23 rfl rfl ?_
      refine e_iconst (w := (nI 4)) dX10_act_24 (by decide) ?_
      refine e_icmp_lt 30 dX10_act_25 (by decide) hf (fun hf => ?_) (fun hf => ?_)
      · refine e_aload_n 0 dX10_act_30 rfl rfl ?_
        refine e_getr hV dX10_act_31 rfl lc_T rfl ?_
        refine e_iload_n 1 dX10_act_34 rfl rfl ?_
        refine e_aload_n 0 dX10_act_35 rfl rfl ?_
        refine e_getr hV dX10_act_36 rfl lc_T rfl ?_
        refine e_getr hV dX10_act_39 rfl lc_U rfl ?_
        refine e_iload_n 1 dX10_act_42 rfl rfl ?_
        refine e_iald hV dX10_act_43 lc_U_kinds hf (fun v3 hf => ?_)
        refine e_iload_n 2 dX10_act_44 rfl rfl ?_
        refine e_iload_n 3 dX10_act_45 rfl rfl ?_
        refine e_iconst (w := (nI 0)) dX10_act_46 (by decide) ?_
        obtain ⟨r4, s5, hg, hf⟩ := bP_some hf
        refine e_callV (as := [.int x1, .int v3, .int x2, .int x3, .int (nI 0)]) (v := (some (.int r4))) (s' := s5) hV dX10_act_47 (Or.inr ⟨rfl, rfl, rfl⟩) rfl rfl rfl rfl (Nat.le_of_ble_eq_true rfl) lc_U rfl rfl (fun Q hQ => tX3_perform (d := d) hV hr  hg hQ) ?_
        obtain rfl := Option.some.inj hf
        exact e_iret dX10_act_50 trivial hP
      · refine e_iconst (w := (nI 0)) dX10_act_28 (by decide) ?_
        obtain rfl := Option.some.inj hf
        exact e_iret dX10_act_29 trivial hP

theorem dX10_trace_0 : decode cX10_trace 0 = .ok (.iload_n 1, 1) := by decide +kernel
theorem dX10_trace_1 : decode cX10_trace 1 = .ok (.ifCond .lt 32, 3) := by decide +kernel
theorem dX10_trace_4 : decode cX10_trace 4 = .ok (.iload_n 1, 1) := by decide +kernel
theorem dX10_trace_5 : decode cX10_trace 5 = .ok (.aload_n 0, 1) := by decide +kernel
theorem dX10_trace_6 : decode cX10_trace 6 = .ok (.getfield 56, 3) := by decide +kernel
theorem dX10_trace_9 : decode cX10_trace 9 = .ok (.getfield 344, 3) := by decide +kernel
theorem dX10_trace_12 : decode cX10_trace 12 = .ok (.if_icmp .ge 21, 3) := by decide +kernel
theorem dX10_trace_15 : decode cX10_trace 15 = .ok (.iload_n 1, 1) := by decide +kernel
theorem dX10_trace_16 : decode cX10_trace 16 = .ok (.bipush 24, 2) := by decide +kernel
theorem dX10_trace_18 : decode cX10_trace 18 = .ok (.if_icmp .ge 15, 3) := by decide +kernel
theorem dX10_trace_21 : decode cX10_trace 21 = .ok (.aload_n 0, 1) := by decide +kernel
theorem dX10_trace_22 : decode cX10_trace 22 = .ok (.getfield 56, 3) := by decide +kernel
theorem dX10_trace_25 : decode cX10_trace 25 = .ok (.getfield 355, 3) := by decide +kernel
theorem dX10_trace_28 : decode cX10_trace 28 = .ok (.iload_n 1, 1) := by decide +kernel
theorem dX10_trace_29 : decode cX10_trace 29 = .ok (.iaload, 1) := by decide +kernel
theorem dX10_trace_30 : decode cX10_trace 30 = .ok (.goto 4, 3) := by decide +kernel
theorem dX10_trace_33 : decode cX10_trace 33 = .ok (.iconst (-1), 1) := by decide +kernel
theorem dX10_trace_34 : decode cX10_trace 34 = .ok (.ireturn, 1) := by decide +kernel
def fX10_trace (x1 : Int32) (s : mS) : Option Int32 :=
  if x1 < 0 then
    some (-1)
  else
    if (gI s iU_ran) ≤ x1 then
      some (-1)
    else
      if (nI 24) ≤ x1 then
        some (-1)
      else
        ldA s aU_traced 24 x1 fun v1 =>
        some v1

set_option maxRecDepth 20000 in
theorem tX10_trace {ρ : mRo} {d : Nat} {P : mPo} {V : mS → List mE} (hV : mView LC V)  {x1 : Int32} {s : mS} {res : Int32} (hf : fX10_trace x1 s = some res) (hP : P (some (.int res)) (V s)) : mC ρ (d + 1) 102 [.ref qT, .int x1] (V s) P := by
  refine ⟨_, rfl, Nat.le_of_ble_eq_true rfl, by decide, ?_⟩
  show mG ρ (mC ρ d) 10 2 cX10_trace (some .int) P 0 [(0, .ref qT), (1, .int x1)] [] (V s)
  unfold fX10_trace at hf
  refine e_iload_n 1 dX10_trace_0 rfl rfl ?_
  refine e_if_lt 33 dX10_trace_1 (by decide) hf (fun hf => ?_) (fun hf => ?_)
  · refine e_iconst (w := (-1)) dX10_trace_33 (by decide) ?_
    obtain rfl := Option.some.inj hf
    exact e_iret dX10_trace_34 trivial hP
  · refine e_iload_n 1 dX10_trace_4 rfl rfl ?_
    refine e_aload_n 0 dX10_trace_5 rfl rfl ?_
    refine e_getr hV dX10_trace_6 rfl lc_T rfl ?_
    refine e_geti hV dX10_trace_9 rfl lc_U rfl ?_
    refine e_icmp_ge 33 dX10_trace_12 (by decide) hf (fun hf => ?_) (fun hf => ?_)
    · refine e_iconst (w := (-1)) dX10_trace_33 (by decide) ?_
      obtain rfl := Option.some.inj hf
      exact e_iret dX10_trace_34 trivial hP
    · refine e_iload_n 1 dX10_trace_15 rfl rfl ?_
      refine e_bipush (w := (nI 24)) dX10_trace_16 (by decide) ?_
      refine e_icmp_ge 33 dX10_trace_18 (by decide) hf (fun hf => ?_) (fun hf => ?_)
      · refine e_iconst (w := (-1)) dX10_trace_33 (by decide) ?_
        obtain rfl := Option.some.inj hf
        exact e_iret dX10_trace_34 trivial hP
      · refine e_aload_n 0 dX10_trace_21 rfl rfl ?_
        refine e_getr hV dX10_trace_22 rfl lc_T rfl ?_
        refine e_getr hV dX10_trace_25 rfl lc_U rfl ?_
        refine e_iload_n 1 dX10_trace_28 rfl rfl ?_
        refine e_iald hV dX10_trace_29 lc_U_traced hf (fun v1 hf => ?_)
        refine e_goto 34 dX10_trace_30 (by decide) ?_
        obtain rfl := Option.some.inj hf
        exact e_iret dX10_trace_34 trivial hP

theorem dX10_keep_0 : decode cX10_keep 0 = .ok (.iload_n 1, 1) := by decide +kernel
theorem dX10_keep_1 : decode cX10_keep 1 = .ok (.invokestatic 99, 3) := by decide +kernel
theorem dX10_keep_4 : decode cX10_keep 4 = .ok (.ifCond .eq 19, 3) := by decide +kernel
theorem dX10_keep_7 : decode cX10_keep 7 = .ok (.iload_n 2, 1) := by decide +kernel
theorem dX10_keep_8 : decode cX10_keep 8 = .ok (.iconst (-1), 1) := by decide +kernel
theorem dX10_keep_9 : decode cX10_keep 9 = .ok (.if_icmp .eq 16, 3) := by decide +kernel
theorem dX10_keep_12 : decode cX10_keep 12 = .ok (.aload_n 0, 1) := by decide +kernel
theorem dX10_keep_13 : decode cX10_keep 13 = .ok (.getfield 56, 3) := by decide +kernel
theorem dX10_keep_16 : decode cX10_keep 16 = .ok (.iload_n 2, 1) := by decide +kernel
theorem dX10_keep_17 : decode cX10_keep 17 = .ok (.invokevirtual 347, 3) := by decide +kernel
theorem dX10_keep_20 : decode cX10_keep 20 = .ok (.ifCond .ne 5, 3) := by decide +kernel
theorem dX10_keep_23 : decode cX10_keep 23 = .ok (.iconst (-1), 1) := by decide +kernel
theorem dX10_keep_24 : decode cX10_keep 24 = .ok (.ireturn, 1) := by decide +kernel
theorem dX10_keep_25 : decode cX10_keep 25 = .ok (.aload_n 0, 1) := by decide +kernel
theorem dX10_keep_26 : decode cX10_keep 26 = .ok (.getfield 42, 3) := by decide +kernel
theorem dX10_keep_29 : decode cX10_keep 29 = .ok (.iload_n 1, 1) := by decide +kernel
theorem dX10_keep_30 : decode cX10_keep 30 = .ok (.aaload, 1) := by decide +kernel
theorem dX10_keep_31 : decode cX10_keep 31 = .ok (.iload_n 2, 1) := by decide +kernel
theorem dX10_keep_32 : decode cX10_keep 32 = .ok (.invokevirtual 358, 3) := by decide +kernel
theorem dX10_keep_35 : decode cX10_keep 35 = .ok (.iconst 1, 1) := by decide +kernel
theorem dX10_keep_36 : decode cX10_keep 36 = .ok (.ireturn, 1) := by decide +kernel
def fX10_keep_b25 (y1 : Int32) (y2 : Int32) (s : mS) : Option (Int32 × mS) :=
  ldS 6 y1 fun j2 =>
  bO (fX7_holdGhost j2 y2 s) fun s3 =>
  some ((nI 1), s3)

def fX10_keep (x1 : Int32) (x2 : Int32) (s : mS) : Option (Int32 × mS) :=
  bO (fX10_isShelf x1 s) fun r1 =>
  if r1 = 0 then
    some ((-1), s)
  else
    if x2 = (-1) then
      fX10_keep_b25 x1 x2 s
    else
      bO (fX3_has x2 s) fun r4 =>
      if r4 = 0 then
        some ((-1), s)
      else
        fX10_keep_b25 x1 x2 s

set_option maxRecDepth 20000 in
theorem wX10_keep_b25 {ρ : mRo} {d : Nat} {P : mPo} {V : mS → List mE} (hV : mView LC V)  {res : (Int32 × mS)} (hP : P (some (.int res.1)) (V res.2)) (y1 : Int32) (y2 : Int32) (s : mS) (hf : fX10_keep_b25 y1 y2 s = some res) : mG ρ (mC ρ (d + 1)) 10 3 cX10_keep (some .int) P 25 [(0, .ref qT), (1, .int y1), (2, .int y2)] [] (V s) := by
  unfold fX10_keep_b25 at hf
  refine e_aload_n 0 dX10_keep_25 rfl rfl ?_
  refine e_getr hV dX10_keep_26 rfl lc_T rfl ?_
  refine e_iload_n 1 dX10_keep_29 rfl rfl ?_
  refine e_aald hV dX10_keep_30 lc_T_shelves rfl lc_T_shelves_at hf (fun j2 hj2 hf => ?_)
  refine e_iload_n 2 dX10_keep_31 rfl rfl ?_
  obtain ⟨s3, hg, hf⟩ := bO_some hf
  refine e_callV (as := [.int y2]) (v := none) (s' := s3) hV dX10_keep_32 (Or.inl rfl) rfl rfl rfl rfl (Nat.le_of_ble_eq_true rfl) (lc_S hj2) rfl rfl (fun Q hQ => tX7_holdGhost (d := d) hV hj2 hg hQ) ?_
  refine e_iconst (w := (nI 1)) dX10_keep_35 (by decide) ?_
  obtain rfl := Option.some.inj hf
  exact e_iret dX10_keep_36 trivial hP
set_option maxRecDepth 20000 in
theorem tX10_keep {ρ : mRo} {d : Nat} {P : mPo} {V : mS → List mE} (hV : mView LC V)  {x1 : Int32} {x2 : Int32} {s : mS} {res : (Int32 × mS)} (hf : fX10_keep x1 x2 s = some res) (hP : P (some (.int res.1)) (V res.2)) : mC ρ (d + 2) 103 [.ref qT, .int x1, .int x2] (V s) P := by
  refine ⟨_, rfl, Nat.le_of_ble_eq_true rfl, by decide, ?_⟩
  show mG ρ (mC ρ (d + 1)) 10 3 cX10_keep (some .int) P 0 [(0, .ref qT), (1, .int x1), (2, .int x2)] [] (V s)
  unfold fX10_keep at hf
  refine e_iload_n 1 dX10_keep_0 rfl rfl ?_
  obtain ⟨r1, hg, hf⟩ := bO_some hf
  refine e_callS (as := [.int x1]) (v := (some (.int r1))) (s' := s) dX10_keep_1 rfl rfl rfl rfl rfl (Nat.le_of_ble_eq_true rfl) (fun Q hQ => tX10_isShelf (d := d) hV  hg hQ) ?_
  refine e_if_eq 23 dX10_keep_4 (by decide) hf (fun hf => ?_) (fun hf => ?_)
  · refine e_iconst (w := (-1)) dX10_keep_23 (by decide) ?_
    obtain rfl := Option.some.inj hf
    exact e_iret dX10_keep_24 trivial hP
  · refine e_iload_n 2 dX10_keep_7 rfl rfl ?_
    refine e_iconst (w := (-1)) dX10_keep_8 (by decide) ?_
    refine e_icmp_eq 25 dX10_keep_9 (by decide) hf (fun hf => ?_) (fun hf => ?_)
    · refine e_pick [0, 1, 2] rfl ?_
      exact wX10_keep_b25 hV hP x1 x2 s hf
    · refine e_aload_n 0 dX10_keep_12 rfl rfl ?_
      refine e_getr hV dX10_keep_13 rfl lc_T rfl ?_
      refine e_iload_n 2 dX10_keep_16 rfl rfl ?_
      obtain ⟨r4, hg, hf⟩ := bO_some hf
      refine e_callV (as := [.int x2]) (v := (some (.int r4))) (s' := s) hV dX10_keep_17 (Or.inl rfl) rfl rfl rfl rfl (Nat.le_of_ble_eq_true rfl) lc_U rfl rfl (fun Q hQ => tX3_has (d := d) hV  hg hQ) ?_
      refine e_if_ne 25 dX10_keep_20 (by decide) hf (fun hf => ?_) (fun hf => ?_)
      · refine e_pick [0, 1, 2] rfl ?_
        exact wX10_keep_b25 hV hP x1 x2 s hf
      · refine e_iconst (w := (-1)) dX10_keep_23 (by decide) ?_
        obtain rfl := Option.some.inj hf
        exact e_iret dX10_keep_24 trivial hP

theorem dX10_row_0 : decode cX10_row 0 = .ok (.iload_n 1, 1) := by decide +kernel
theorem dX10_row_1 : decode cX10_row 1 = .ok (.invokestatic 99, 3) := by decide +kernel
theorem dX10_row_4 : decode cX10_row 4 = .ok (.ifCond .eq 18, 3) := by decide +kernel
theorem dX10_row_7 : decode cX10_row 7 = .ok (.iload_n 2, 1) := by decide +kernel
theorem dX10_row_8 : decode cX10_row 8 = .ok (.ifCond .lt 14, 3) := by decide +kernel
theorem dX10_row_11 : decode cX10_row 11 = .ok (.iload_n 2, 1) := by decide +kernel
theorem dX10_row_12 : decode cX10_row 12 = .ok (.iconst 5, 1) := by decide +kernel
theorem dX10_row_13 : decode cX10_row 13 = .ok (.if_icmp .ge 9, 3) := by decide +kernel
theorem dX10_row_16 : decode cX10_row 16 = .ok (.iload_n 3, 1) := by decide +kernel
theorem dX10_row_17 : decode cX10_row 17 = .ok (.bipush 60, 2) := by decide +kernel
theorem dX10_row_19 : decode cX10_row 19 = .ok (.if_icmp .le 5, 3) := by decide +kernel
theorem dX10_row_22 : decode cX10_row 22 = .ok (.iconst (-1), 1) := by decide +kernel
theorem dX10_row_23 : decode cX10_row 23 = .ok (.ireturn, 1) := by decide +kernel
theorem dX10_row_24 : decode cX10_row 24 = .ok (.iload_n 3, 1) := by decide +kernel
theorem dX10_row_25 : decode cX10_row 25 = .ok (.ifCond .ge 6, 3) := by decide +kernel
theorem dX10_row_28 : decode cX10_row 28 = .ok (.bipush (-14), 2) := by decide +kernel
theorem dX10_row_30 : decode cX10_row 30 = .ok (.ireturn, 1) := by decide +kernel
theorem dX10_row_31 : decode cX10_row 31 = .ok (.aload_n 0, 1) := by decide +kernel
theorem dX10_row_32 : decode cX10_row 32 = .ok (.getfield 42, 3) := by decide +kernel
theorem dX10_row_35 : decode cX10_row 35 = .ok (.iload_n 1, 1) := by decide +kernel
theorem dX10_row_36 : decode cX10_row 36 = .ok (.aaload, 1) := by decide +kernel
theorem dX10_row_37 : decode cX10_row 37 = .ok (.iload_n 2, 1) := by decide +kernel
theorem dX10_row_38 : decode cX10_row 38 = .ok (.iload_n 3, 1) := by decide +kernel
theorem dX10_row_39 : decode cX10_row 39 = .ok (.invokevirtual 362, 3) := by decide +kernel
theorem dX10_row_42 : decode cX10_row 42 = .ok (.iconst 1, 1) := by decide +kernel
theorem dX10_row_43 : decode cX10_row 43 = .ok (.ireturn, 1) := by decide +kernel
def fX10_row (x1 : Int32) (x2 : Int32) (x3 : Int32) (s : mS) : Option (Int32 × mS) :=
  bO (fX10_isShelf x1 s) fun r1 =>
  if r1 = 0 then
    some ((-1), s)
  else
    if x2 < 0 then
      some ((-1), s)
    else
      if (nI 5) ≤ x2 then
        some ((-1), s)
      else
        if x3 ≤ (nI 60) then
          if 0 ≤ x3 then
            ldS 6 x1 fun j2 =>
            bO (fX7_holdRow j2 x2 x3 s) fun s3 =>
            some ((nI 1), s3)
          else
            some ((-14), s)
        else
          some ((-1), s)

set_option maxRecDepth 20000 in
theorem tX10_row {ρ : mRo} {d : Nat} {P : mPo} {V : mS → List mE} (hV : mView LC V)  {x1 : Int32} {x2 : Int32} {x3 : Int32} {s : mS} {res : (Int32 × mS)} (hf : fX10_row x1 x2 x3 s = some res) (hP : P (some (.int res.1)) (V res.2)) : mC ρ (d + 3) 104 [.ref qT, .int x1, .int x2, .int x3] (V s) P := by
  refine ⟨_, rfl, Nat.le_of_ble_eq_true rfl, by decide, ?_⟩
  show mG ρ (mC ρ (d + 2)) 10 4 cX10_row (some .int) P 0 [(0, .ref qT), (1, .int x1), (2, .int x2), (3, .int x3)] [] (V s)
  unfold fX10_row at hf
  refine e_iload_n 1 dX10_row_0 rfl rfl ?_
  obtain ⟨r1, hg, hf⟩ := bO_some hf
  refine e_callS (as := [.int x1]) (v := (some (.int r1))) (s' := s) dX10_row_1 rfl rfl rfl rfl rfl (Nat.le_of_ble_eq_true rfl) (fun Q hQ => tX10_isShelf (d := (d + 1)) hV  hg hQ) ?_
  refine e_if_eq 22 dX10_row_4 (by decide) hf (fun hf => ?_) (fun hf => ?_)
  · refine e_iconst (w := (-1)) dX10_row_22 (by decide) ?_
    obtain rfl := Option.some.inj hf
    exact e_iret dX10_row_23 trivial hP
  · refine e_iload_n 2 dX10_row_7 rfl rfl ?_
    refine e_if_lt 22 dX10_row_8 (by decide) hf (fun hf => ?_) (fun hf => ?_)
    · refine e_iconst (w := (-1)) dX10_row_22 (by decide) ?_
      obtain rfl := Option.some.inj hf
      exact e_iret dX10_row_23 trivial hP
    · refine e_iload_n 2 dX10_row_11 rfl rfl ?_
      refine e_iconst (w := (nI 5)) dX10_row_12 (by decide) ?_
      refine e_icmp_ge 22 dX10_row_13 (by decide) hf (fun hf => ?_) (fun hf => ?_)
      · refine e_iconst (w := (-1)) dX10_row_22 (by decide) ?_
        obtain rfl := Option.some.inj hf
        exact e_iret dX10_row_23 trivial hP
      · refine e_iload_n 3 dX10_row_16 rfl rfl ?_
        refine e_bipush (w := (nI 60)) dX10_row_17 (by decide) ?_
        refine e_icmp_le 24 dX10_row_19 (by decide) hf (fun hf => ?_) (fun hf => ?_)
        · refine e_iload_n 3 dX10_row_24 rfl rfl ?_
          refine e_if_ge 31 dX10_row_25 (by decide) hf (fun hf => ?_) (fun hf => ?_)
          · refine e_aload_n 0 dX10_row_31 rfl rfl ?_
            refine e_getr hV dX10_row_32 rfl lc_T rfl ?_
            refine e_iload_n 1 dX10_row_35 rfl rfl ?_
            refine e_aald hV dX10_row_36 lc_T_shelves rfl lc_T_shelves_at hf (fun j2 hj2 hf => ?_)
            refine e_iload_n 2 dX10_row_37 rfl rfl ?_
            refine e_iload_n 3 dX10_row_38 rfl rfl ?_
            obtain ⟨s3, hg, hf⟩ := bO_some hf
            refine e_callV (as := [.int x2, .int x3]) (v := none) (s' := s3) hV dX10_row_39 (Or.inl rfl) rfl rfl rfl rfl (Nat.le_of_ble_eq_true rfl) (lc_S hj2) rfl rfl (fun Q hQ => tX7_holdRow (d := d) hV hj2 hg hQ) ?_
            refine e_iconst (w := (nI 1)) dX10_row_42 (by decide) ?_
            obtain rfl := Option.some.inj hf
            exact e_iret dX10_row_43 trivial hP
          · refine e_bipush (w := (-14)) dX10_row_28 (by decide) ?_
            obtain rfl := Option.some.inj hf
            exact e_iret dX10_row_30 trivial hP
        · refine e_iconst (w := (-1)) dX10_row_22 (by decide) ?_
          obtain rfl := Option.some.inj hf
          exact e_iret dX10_row_23 trivial hP

theorem dX10_cellRefusal_0 : decode cX10_cellRefusal 0 = .ok (.iload_n 1, 1) := by decide +kernel
theorem dX10_cellRefusal_1 : decode cX10_cellRefusal 1 = .ok (.invokestatic 99, 3) := by decide +kernel
theorem dX10_cellRefusal_4 : decode cX10_cellRefusal 4 = .ok (.ifCond .ne 5, 3) := by decide +kernel
theorem dX10_cellRefusal_7 : decode cX10_cellRefusal 7 = .ok (.iconst (-1), 1) := by decide +kernel
theorem dX10_cellRefusal_8 : decode cX10_cellRefusal 8 = .ok (.ireturn, 1) := by decide +kernel
theorem dX10_cellRefusal_9 : decode cX10_cellRefusal 9 = .ok (.aload_n 0, 1) := by decide +kernel
theorem dX10_cellRefusal_10 : decode cX10_cellRefusal 10 = .ok (.getfield 42, 3) := by decide +kernel
theorem dX10_cellRefusal_13 : decode cX10_cellRefusal 13 = .ok (.iload_n 1, 1) := by decide +kernel
theorem dX10_cellRefusal_14 : decode cX10_cellRefusal 14 = .ok (.aaload, 1) := by decide +kernel
theorem dX10_cellRefusal_15 : decode cX10_cellRefusal 15 = .ok (.invokevirtual 103, 3) := by decide +kernel
theorem dX10_cellRefusal_18 : decode cX10_cellRefusal 18 = .ok (.ifCond .eq 6, 3) := by decide +kernel
theorem dX10_cellRefusal_21 : decode cX10_cellRefusal 21 = .ok (.bipush (-11), 2) := by decide +kernel
theorem dX10_cellRefusal_23 : decode cX10_cellRefusal 23 = .ok (.ireturn, 1) := by decide +kernel
theorem dX10_cellRefusal_24 : decode cX10_cellRefusal 24 = .ok (.aload_n 0, 1) := by decide +kernel
theorem dX10_cellRefusal_25 : decode cX10_cellRefusal 25 = .ok (.getfield 42, 3) := by decide +kernel
theorem dX10_cellRefusal_28 : decode cX10_cellRefusal 28 = .ok (.iload_n 1, 1) := by decide +kernel
theorem dX10_cellRefusal_29 : decode cX10_cellRefusal 29 = .ok (.aaload, 1) := by decide +kernel
theorem dX10_cellRefusal_30 : decode cX10_cellRefusal 30 = .ok (.invokevirtual 377, 3) := by decide +kernel
theorem dX10_cellRefusal_33 : decode cX10_cellRefusal 33 = .ok (.ifCond .ne 6, 3) := by decide +kernel
theorem dX10_cellRefusal_36 : decode cX10_cellRefusal 36 = .ok (.bipush (-12), 2) := by decide +kernel
theorem dX10_cellRefusal_38 : decode cX10_cellRefusal 38 = .ok (.ireturn, 1) := by decide +kernel
theorem dX10_cellRefusal_39 : decode cX10_cellRefusal 39 = .ok (.iload_n 2, 1) := by decide +kernel
theorem dX10_cellRefusal_40 : decode cX10_cellRefusal 40 = .ok (.ifCond .lt 20, 3) := by decide +kernel
theorem dX10_cellRefusal_43 : decode cX10_cellRefusal 43 = .ok (.iload_n 2, 1) := by decide +kernel
theorem dX10_cellRefusal_44 : decode cX10_cellRefusal 44 = .ok (.aload_n 0, 1) := by decide +kernel
theorem dX10_cellRefusal_45 : decode cX10_cellRefusal 45 = .ok (.getfield 42, 3) := by decide +kernel
theorem dX10_cellRefusal_48 : decode cX10_cellRefusal 48 = .ok (.iload_n 1, 1) := by decide +kernel
theorem dX10_cellRefusal_49 : decode cX10_cellRefusal 49 = .ok (.aaload, 1) := by decide +kernel
theorem dX10_cellRefusal_50 : decode cX10_cellRefusal 50 = .ok (.getfield 109, 3) := by decide +kernel
theorem dX10_cellRefusal_53 : decode cX10_cellRefusal 53 = .ok (.if_icmp .ge 7, 3) := by decide +kernel
theorem dX10_cellRefusal_56 : decode cX10_cellRefusal 56 = .ok (.iconst 0, 1) := by decide +kernel
theorem dX10_cellRefusal_57 : decode cX10_cellRefusal 57 = .ok (.goto 5, 3) := by decide +kernel
theorem dX10_cellRefusal_60 : decode cX10_cellRefusal 60 = .ok (.bipush (-13), 2) := by decide +kernel
theorem dX10_cellRefusal_62 : decode cX10_cellRefusal 62 = .ok (.ireturn, 1) := by decide +kernel
def fX10_cellRefusal (x1 : Int32) (x2 : Int32) (s : mS) : Option Int32 :=
  bO (fX10_isShelf x1 s) fun r1 =>
  if r1 = 0 then
    some (-1)
  else
    ldS 6 x1 fun j2 =>
    bO (fX7_isEmpty j2 s) fun r3 =>
    if r3 = 0 then
      ldS 6 x1 fun j4 =>
      bO (fX7_isRow j4 s) fun r5 =>
      if r5 = 0 then
        some (-12)
      else
        if x2 < 0 then
          some (-13)
        else
          ldS 6 x1 fun j6 =>
          if (gI s (iS_size j6)) ≤ x2 then
            some (-13)
          else
            some (nI 0)
    else
      some (-11)

set_option maxRecDepth 20000 in
theorem tX10_cellRefusal {ρ : mRo} {d : Nat} {P : mPo} {V : mS → List mE} (hV : mView LC V)  {x1 : Int32} {x2 : Int32} {s : mS} {res : Int32} (hf : fX10_cellRefusal x1 x2 s = some res) (hP : P (some (.int res)) (V s)) : mC ρ (d + 2) 113 [.ref qT, .int x1, .int x2] (V s) P := by
  refine ⟨_, rfl, Nat.le_of_ble_eq_true rfl, by decide, ?_⟩
  show mG ρ (mC ρ (d + 1)) 10 3 cX10_cellRefusal (some .int) P 0 [(0, .ref qT), (1, .int x1), (2, .int x2)] [] (V s)
  unfold fX10_cellRefusal at hf
  refine e_iload_n 1 dX10_cellRefusal_0 rfl rfl ?_
  obtain ⟨r1, hg, hf⟩ := bO_some hf
  refine e_callS (as := [.int x1]) (v := (some (.int r1))) (s' := s) dX10_cellRefusal_1 rfl rfl rfl rfl rfl (Nat.le_of_ble_eq_true rfl) (fun Q hQ => tX10_isShelf (d := d) hV  hg hQ) ?_
  refine e_if_ne 9 dX10_cellRefusal_4 (by decide) hf (fun hf => ?_) (fun hf => ?_)
  · refine e_aload_n 0 dX10_cellRefusal_9 rfl rfl ?_
    refine e_getr hV dX10_cellRefusal_10 rfl lc_T rfl ?_
    refine e_iload_n 1 dX10_cellRefusal_13 rfl rfl ?_
    refine e_aald hV dX10_cellRefusal_14 lc_T_shelves rfl lc_T_shelves_at hf (fun j2 hj2 hf => ?_)
    obtain ⟨r3, hg, hf⟩ := bO_some hf
    refine e_callV (as := []) (v := (some (.int r3))) (s' := s) hV dX10_cellRefusal_15 (Or.inl rfl) rfl rfl rfl rfl (Nat.le_of_ble_eq_true rfl) (lc_S hj2) rfl rfl (fun Q hQ => tX7_isEmpty (d := d) hV hj2 hg hQ) ?_
    refine e_if_eq 24 dX10_cellRefusal_18 (by decide) hf (fun hf => ?_) (fun hf => ?_)
    · refine e_aload_n 0 dX10_cellRefusal_24 rfl rfl ?_
      refine e_getr hV dX10_cellRefusal_25 rfl lc_T rfl ?_
      refine e_iload_n 1 dX10_cellRefusal_28 rfl rfl ?_
      refine e_aald hV dX10_cellRefusal_29 lc_T_shelves rfl lc_T_shelves_at hf (fun j4 hj4 hf => ?_)
      obtain ⟨r5, hg, hf⟩ := bO_some hf
      refine e_callV (as := []) (v := (some (.int r5))) (s' := s) hV dX10_cellRefusal_30 (Or.inl rfl) rfl rfl rfl rfl (Nat.le_of_ble_eq_true rfl) (lc_S hj4) rfl rfl (fun Q hQ => tX7_isRow (d := d) hV hj4 hg hQ) ?_
      refine e_if_ne 39 dX10_cellRefusal_33 (by decide) hf (fun hf => ?_) (fun hf => ?_)
      · refine e_iload_n 2 dX10_cellRefusal_39 rfl rfl ?_
        refine e_if_lt 60 dX10_cellRefusal_40 (by decide) hf (fun hf => ?_) (fun hf => ?_)
        · refine e_bipush (w := (-13)) dX10_cellRefusal_60 (by decide) ?_
          obtain rfl := Option.some.inj hf
          exact e_iret dX10_cellRefusal_62 trivial hP
        · refine e_iload_n 2 dX10_cellRefusal_43 rfl rfl ?_
          refine e_aload_n 0 dX10_cellRefusal_44 rfl rfl ?_
          refine e_getr hV dX10_cellRefusal_45 rfl lc_T rfl ?_
          refine e_iload_n 1 dX10_cellRefusal_48 rfl rfl ?_
          refine e_aald hV dX10_cellRefusal_49 lc_T_shelves rfl lc_T_shelves_at hf (fun j6 hj6 hf => ?_)
          refine e_geti hV dX10_cellRefusal_50 rfl (lc_S hj6) rfl ?_
          refine e_icmp_ge 60 dX10_cellRefusal_53 (by decide) hf (fun hf => ?_) (fun hf => ?_)
          · refine e_bipush (w := (-13)) dX10_cellRefusal_60 (by decide) ?_
            obtain rfl := Option.some.inj hf
            exact e_iret dX10_cellRefusal_62 trivial hP
          · refine e_iconst (w := (nI 0)) dX10_cellRefusal_56 (by decide) ?_
            refine e_goto 62 dX10_cellRefusal_57 (by decide) ?_
            obtain rfl := Option.some.inj hf
            exact e_iret dX10_cellRefusal_62 trivial hP
      · refine e_bipush (w := (-12)) dX10_cellRefusal_36 (by decide) ?_
        obtain rfl := Option.some.inj hf
        exact e_iret dX10_cellRefusal_38 trivial hP
    · refine e_bipush (w := (-11)) dX10_cellRefusal_21 (by decide) ?_
      obtain rfl := Option.some.inj hf
      exact e_iret dX10_cellRefusal_23 trivial hP
  · refine e_iconst (w := (-1)) dX10_cellRefusal_7 (by decide) ?_
    obtain rfl := Option.some.inj hf
    exact e_iret dX10_cellRefusal_8 trivial hP

theorem dX10_put_0 : decode cX10_put 0 = .ok (.aload_n 0, 1) := by decide +kernel
theorem dX10_put_1 : decode cX10_put 1 = .ok (.iload_n 1, 1) := by decide +kernel
theorem dX10_put_2 : decode cX10_put 2 = .ok (.iload_n 2, 1) := by decide +kernel
theorem dX10_put_3 : decode cX10_put 3 = .ok (.invokevirtual 366, 3) := by decide +kernel
theorem dX10_put_6 : decode cX10_put 6 = .ok (.istore 5, 2) := by decide +kernel
theorem dX10_put_8 : decode cX10_put 8 = .ok (.iload 5, 2) := by decide +kernel
theorem dX10_put_10 : decode cX10_put 10 = .ok (.ifCond .eq 6, 3) := by decide +kernel
theorem dX10_put_13 : decode cX10_put 13 = .ok (.iload 5, 2) := by decide +kernel
theorem dX10_put_15 : decode cX10_put 15 = .ok (.ireturn, 1) := by decide +kernel
theorem dX10_put_16 : decode cX10_put 16 = .ok (.aload_n 0, 1) := by decide +kernel
theorem dX10_put_17 : decode cX10_put 17 = .ok (.getfield 42, 3) := by decide +kernel
theorem dX10_put_20 : decode cX10_put 20 = .ok (.iload_n 1, 1) := by decide +kernel
theorem dX10_put_21 : decode cX10_put 21 = .ok (.aaload, 1) := by decide +kernel
theorem dX10_put_22 : decode cX10_put 22 = .ok (.getfield 117, 3) := by decide +kernel
theorem dX10_put_25 : decode cX10_put 25 = .ok (.iload_n 2, 1) := by decide +kernel
theorem dX10_put_26 : decode cX10_put 26 = .ok (.aload_n 0, 1) := by decide +kernel
theorem dX10_put_27 : decode cX10_put 27 = .ok (.getfield 42, 3) := by decide +kernel
theorem dX10_put_30 : decode cX10_put 30 = .ok (.iload_n 1, 1) := by decide +kernel
theorem dX10_put_31 : decode cX10_put 31 = .ok (.aaload, 1) := by decide +kernel
theorem dX10_put_32 : decode cX10_put 32 = .ok (.lload_n 3, 1) := by decide +kernel
theorem dX10_put_33 : decode cX10_put 33 = .ok (.invokevirtual 369, 3) := by decide +kernel
theorem dX10_put_36 : decode cX10_put 36 = .ok (.lastore, 1) := by decide +kernel
theorem dX10_put_37 : decode cX10_put 37 = .ok (.iconst 1, 1) := by decide +kernel
theorem dX10_put_38 : decode cX10_put 38 = .ok (.ireturn, 1) := by decide +kernel
def fX10_put (x1 : Int32) (x2 : Int32) (x3 : Int64) (s : mS) : Option (Int32 × mS) :=
  bO (fX10_cellRefusal x1 x2 s) fun r1 =>
  bnd r1 fun v2 =>
  if v2 = 0 then
    ldS 6 x1 fun j3 =>
    ldS 6 x1 fun j4 =>
    bO (fX7_lowest j4 x3 s) fun r5 =>
    stL s (lS_cells j3) 60 x2 r5 fun s6 =>
    some ((nI 1), s6)
  else
    some (v2, s)

set_option maxRecDepth 20000 in
theorem tX10_put {ρ : mRo} {d : Nat} {P : mPo} {V : mS → List mE} (hV : mView LC V)  {x1 : Int32} {x2 : Int32} {x3 : Int64} {s : mS} {res : (Int32 × mS)} (hf : fX10_put x1 x2 x3 s = some res) (hP : P (some (.int res.1)) (V res.2)) : mC ρ (d + 3) 105 [.ref qT, .int x1, .int x2, .long x3] (V s) P := by
  refine ⟨_, rfl, Nat.le_of_ble_eq_true rfl, by decide, ?_⟩
  show mG ρ (mC ρ (d + 2)) 10 6 cX10_put (some .int) P 0 [(0, .ref qT), (1, .int x1), (2, .int x2), (3, .long x3)] [] (V s)
  unfold fX10_put at hf
  refine e_aload_n 0 dX10_put_0 rfl rfl ?_
  refine e_iload_n 1 dX10_put_1 rfl rfl ?_
  refine e_iload_n 2 dX10_put_2 rfl rfl ?_
  obtain ⟨r1, hg, hf⟩ := bO_some hf
  refine e_callV (as := [.int x1, .int x2]) (v := (some (.int r1))) (s' := s) hV dX10_put_3 (Or.inl rfl) rfl rfl rfl rfl (Nat.le_of_ble_eq_true rfl) lc_T rfl rfl (fun Q hQ => tX10_cellRefusal (d := d) hV  hg hQ) ?_
  refine e_istore dX10_put_6 (by decide) hf (fun v2 hf => ?_)
  refine e_iload 0 dX10_put_8 rfl ?_
  refine e_if_eq 16 dX10_put_10 (by decide) hf (fun hf => ?_) (fun hf => ?_)
  · refine e_aload_n 1 dX10_put_16 rfl rfl ?_
    refine e_getr hV dX10_put_17 rfl lc_T rfl ?_
    refine e_iload_n 2 dX10_put_20 rfl rfl ?_
    refine e_aald hV dX10_put_21 lc_T_shelves rfl lc_T_shelves_at hf (fun j3 hj3 hf => ?_)
    refine e_getr hV dX10_put_22 rfl (lc_S hj3) rfl ?_
    refine e_iload_n 3 dX10_put_25 rfl rfl ?_
    refine e_aload_n 1 dX10_put_26 rfl rfl ?_
    refine e_getr hV dX10_put_27 rfl lc_T rfl ?_
    refine e_iload_n 2 dX10_put_30 rfl rfl ?_
    refine e_aald hV dX10_put_31 lc_T_shelves rfl lc_T_shelves_at hf (fun j4 hj4 hf => ?_)
    refine e_lload_n 4 dX10_put_32 rfl rfl ?_
    obtain ⟨r5, hg, hf⟩ := bO_some hf
    refine e_callV (as := [.long x3]) (v := (some (.long r5))) (s' := s) hV dX10_put_33 (Or.inl rfl) rfl rfl rfl rfl (Nat.le_of_ble_eq_true rfl) (lc_S hj4) rfl rfl (fun Q hQ => tX7_lowest (d := (d + 1)) hV hj4 hg hQ) ?_
    refine e_last hV dX10_put_36 (lc_S_cells hj3) hf (fun s6 hf => ?_)
    refine e_iconst (w := (nI 1)) dX10_put_37 (by decide) ?_
    obtain rfl := Option.some.inj hf
    exact e_iret dX10_put_38 trivial hP
  · refine e_iload 0 dX10_put_13 rfl ?_
    obtain rfl := Option.some.inj hf
    exact e_iret dX10_put_15 trivial hP

theorem dX10_element_0 : decode cX10_element 0 = .ok (.aload_n 0, 1) := by decide +kernel
theorem dX10_element_1 : decode cX10_element 1 = .ok (.iload_n 1, 1) := by decide +kernel
theorem dX10_element_2 : decode cX10_element 2 = .ok (.iload_n 2, 1) := by decide +kernel
theorem dX10_element_3 : decode cX10_element 3 = .ok (.invokevirtual 366, 3) := by decide +kernel
theorem dX10_element_6 : decode cX10_element 6 = .ok (.ifCond .ne 17, 3) := by decide +kernel
theorem dX10_element_9 : decode cX10_element 9 = .ok (.aload_n 0, 1) := by decide +kernel
theorem dX10_element_10 : decode cX10_element 10 = .ok (.getfield 42, 3) := by decide +kernel
theorem dX10_element_13 : decode cX10_element 13 = .ok (.iload_n 1, 1) := by decide +kernel
theorem dX10_element_14 : decode cX10_element 14 = .ok (.aaload, 1) := by decide +kernel
theorem dX10_element_15 : decode cX10_element 15 = .ok (.getfield 117, 3) := by decide +kernel
theorem dX10_element_18 : decode cX10_element 18 = .ok (.iload_n 2, 1) := by decide +kernel
theorem dX10_element_19 : decode cX10_element 19 = .ok (.laload, 1) := by decide +kernel
theorem dX10_element_20 : decode cX10_element 20 = .ok (.goto 6, 3) := by decide +kernel
theorem dX10_element_23 : decode cX10_element 23 = .ok (.ldc2_w 375, 3) := by decide +kernel
theorem dX10_element_26 : decode cX10_element 26 = .ok (.lreturn, 1) := by decide +kernel
def fX10_element (x1 : Int32) (x2 : Int32) (s : mS) : Option Int64 :=
  bO (fX10_cellRefusal x1 x2 s) fun r1 =>
  if r1 = 0 then
    ldS 6 x1 fun j2 =>
    ldL s (lS_cells j2) 60 x2 fun v3 =>
    some v3
  else
    some (-9223372036854775808)

set_option maxRecDepth 20000 in
theorem tX10_element {ρ : mRo} {d : Nat} {P : mPo} {V : mS → List mE} (hV : mView LC V)  {x1 : Int32} {x2 : Int32} {s : mS} {res : Int64} (hf : fX10_element x1 x2 s = some res) (hP : P (some (.long res)) (V s)) : mC ρ (d + 3) 106 [.ref qT, .int x1, .int x2] (V s) P := by
  refine ⟨_, rfl, Nat.le_of_ble_eq_true rfl, by decide, ?_⟩
  show mG ρ (mC ρ (d + 2)) 10 3 cX10_element (some .long) P 0 [(0, .ref qT), (1, .int x1), (2, .int x2)] [] (V s)
  unfold fX10_element at hf
  refine e_aload_n 0 dX10_element_0 rfl rfl ?_
  refine e_iload_n 1 dX10_element_1 rfl rfl ?_
  refine e_iload_n 2 dX10_element_2 rfl rfl ?_
  obtain ⟨r1, hg, hf⟩ := bO_some hf
  refine e_callV (as := [.int x1, .int x2]) (v := (some (.int r1))) (s' := s) hV dX10_element_3 (Or.inl rfl) rfl rfl rfl rfl (Nat.le_of_ble_eq_true rfl) lc_T rfl rfl (fun Q hQ => tX10_cellRefusal (d := d) hV  hg hQ) ?_
  refine e_if_ne 23 dX10_element_6 (by decide) hf (fun hf => ?_) (fun hf => ?_)
  · refine e_ldc2_w (w := (-9223372036854775808)) dX10_element_23 rfl ?_
    obtain rfl := Option.some.inj hf
    exact e_lret dX10_element_26 rfl hP
  · refine e_aload_n 0 dX10_element_9 rfl rfl ?_
    refine e_getr hV dX10_element_10 rfl lc_T rfl ?_
    refine e_iload_n 1 dX10_element_13 rfl rfl ?_
    refine e_aald hV dX10_element_14 lc_T_shelves rfl lc_T_shelves_at hf (fun j2 hj2 hf => ?_)
    refine e_getr hV dX10_element_15 rfl (lc_S hj2) rfl ?_
    refine e_iload_n 2 dX10_element_18 rfl rfl ?_
    refine e_lald hV dX10_element_19 (lc_S_cells hj2) hf (fun v3 hf => ?_)
    refine e_goto 26 dX10_element_20 (by decide) ?_
    obtain rfl := Option.some.inj hf
    exact e_lret dX10_element_26 rfl hP

theorem dX10_shift_0 : decode cX10_shift 0 = .ok (.iload_n 1, 1) := by decide +kernel
theorem dX10_shift_1 : decode cX10_shift 1 = .ok (.invokestatic 99, 3) := by decide +kernel
theorem dX10_shift_4 : decode cX10_shift 4 = .ok (.ifCond .eq 10, 3) := by decide +kernel
theorem dX10_shift_7 : decode cX10_shift 7 = .ok (.iload_n 3, 1) := by decide +kernel
theorem dX10_shift_8 : decode cX10_shift 8 = .ok (.invokestatic 99, 3) := by decide +kernel
theorem dX10_shift_11 : decode cX10_shift 11 = .ok (.ifCond .ne 5, 3) := by decide +kernel
theorem dX10_shift_14 : decode cX10_shift 14 = .ok (.iconst (-1), 1) := by decide +kernel
theorem dX10_shift_15 : decode cX10_shift 15 = .ok (.ireturn, 1) := by decide +kernel
theorem dX10_shift_16 : decode cX10_shift 16 = .ok (.aload_n 0, 1) := by decide +kernel
theorem dX10_shift_17 : decode cX10_shift 17 = .ok (.getfield 42, 3) := by decide +kernel
theorem dX10_shift_20 : decode cX10_shift 20 = .ok (.iload_n 1, 1) := by decide +kernel
theorem dX10_shift_21 : decode cX10_shift 21 = .ok (.aaload, 1) := by decide +kernel
theorem dX10_shift_22 : decode cX10_shift 22 = .ok (.astore 6, 2) := by decide +kernel
theorem dX10_shift_24 : decode cX10_shift 24 = .ok (.aload_n 0, 1) := by decide +kernel
theorem dX10_shift_25 : decode cX10_shift 25 = .ok (.getfield 42, 3) := by decide +kernel
theorem dX10_shift_28 : decode cX10_shift 28 = .ok (.iload_n 3, 1) := by decide +kernel
theorem dX10_shift_29 : decode cX10_shift 29 = .ok (.aaload, 1) := by decide +kernel
theorem dX10_shift_30 : decode cX10_shift 30 = .ok (.astore 7, 2) := by decide +kernel
theorem dX10_shift_32 : decode cX10_shift 32 = .ok (.aload 6, 2) := by decide +kernel
theorem dX10_shift_34 : decode cX10_shift 34 = .ok (.invokevirtual 103, 3) := by decide +kernel
theorem dX10_shift_37 : decode cX10_shift 37 = .ok (.ifCond .ne 11, 3) := by decide +kernel
theorem dX10_shift_40 : decode cX10_shift 40 = .ok (.aload 7, 2) := by decide +kernel
theorem dX10_shift_42 : decode cX10_shift 42 = .ok (.invokevirtual 103, 3) := by decide +kernel
theorem dX10_shift_45 : decode cX10_shift 45 = .ok (.ifCond .eq 6, 3) := by decide +kernel
theorem dX10_shift_48 : decode cX10_shift 48 = .ok (.bipush (-11), 2) := by decide +kernel
theorem dX10_shift_50 : decode cX10_shift 50 = .ok (.ireturn, 1) := by decide +kernel
theorem dX10_shift_51 : decode cX10_shift 51 = .ok (.aload 6, 2) := by decide +kernel
theorem dX10_shift_53 : decode cX10_shift 53 = .ok (.invokevirtual 377, 3) := by decide +kernel
theorem dX10_shift_56 : decode cX10_shift 56 = .ok (.ifCond .eq 16, 3) := by decide +kernel
theorem dX10_shift_59 : decode cX10_shift 59 = .ok (.aload 7, 2) := by decide +kernel
theorem dX10_shift_61 : decode cX10_shift 61 = .ok (.aload 6, 2) := by decide +kernel
theorem dX10_shift_63 : decode cX10_shift 63 = .ok (.getfield 380, 3) := by decide +kernel
theorem dX10_shift_66 : decode cX10_shift 66 = .ok (.invokevirtual 106, 3) := by decide +kernel
theorem dX10_shift_69 : decode cX10_shift 69 = .ok (.ifCond .ne 6, 3) := by decide +kernel
theorem dX10_shift_72 : decode cX10_shift 72 = .ok (.bipush (-12), 2) := by decide +kernel
theorem dX10_shift_74 : decode cX10_shift 74 = .ok (.ireturn, 1) := by decide +kernel
theorem dX10_shift_75 : decode cX10_shift 75 = .ok (.aload 6, 2) := by decide +kernel
theorem dX10_shift_77 : decode cX10_shift 77 = .ok (.iload_n 2, 1) := by decide +kernel
theorem dX10_shift_78 : decode cX10_shift 78 = .ok (.iload 5, 2) := by decide +kernel
theorem dX10_shift_80 : decode cX10_shift 80 = .ok (.invokevirtual 383, 3) := by decide +kernel
theorem dX10_shift_83 : decode cX10_shift 83 = .ok (.ifCond .eq 15, 3) := by decide +kernel
theorem dX10_shift_86 : decode cX10_shift 86 = .ok (.aload 7, 2) := by decide +kernel
theorem dX10_shift_88 : decode cX10_shift 88 = .ok (.iload 4, 2) := by decide +kernel
theorem dX10_shift_90 : decode cX10_shift 90 = .ok (.iload 5, 2) := by decide +kernel
theorem dX10_shift_92 : decode cX10_shift 92 = .ok (.invokevirtual 383, 3) := by decide +kernel
theorem dX10_shift_95 : decode cX10_shift 95 = .ok (.ifCond .ne 6, 3) := by decide +kernel
theorem dX10_shift_98 : decode cX10_shift 98 = .ok (.bipush (-13), 2) := by decide +kernel
theorem dX10_shift_100 : decode cX10_shift 100 = .ok (.ireturn, 1) := by decide +kernel
theorem dX10_shift_101 : decode cX10_shift 101 = .ok (.aload 6, 2) := by decide +kernel
theorem dX10_shift_103 : decode cX10_shift 103 = .ok (.getfield 117, 3) := by decide +kernel
theorem dX10_shift_106 : decode cX10_shift 106 = .ok (.iload_n 2, 1) := by decide +kernel
theorem dX10_shift_107 : decode cX10_shift 107 = .ok (.aload 7, 2) := by decide +kernel
theorem dX10_shift_109 : decode cX10_shift 109 = .ok (.getfield 117, 3) := by decide +kernel
theorem dX10_shift_112 : decode cX10_shift 112 = .ok (.iload 4, 2) := by decide +kernel
theorem dX10_shift_114 : decode cX10_shift 114 = .ok (.iload 5, 2) := by decide +kernel
theorem dX10_shift_116 : decode cX10_shift 116 = .ok (.invokestatic 386, 3) := by decide +kernel
theorem dX10_shift_119 : decode cX10_shift 119 = .ok (.iload 5, 2) := by decide +kernel
theorem dX10_shift_121 : decode cX10_shift 121 = .ok (.ireturn, 1) := by decide +kernel
def fX10_shift (x1 : Int32) (x2 : Int32) (x3 : Int32) (x4 : Int32) (x5 : Int32) (s : mS) : Option (Int32 × mS) :=
  bO (fX10_isShelf x1 s) fun r1 =>
  if r1 = 0 then
    some ((-1), s)
  else
    bO (fX10_isShelf x3 s) fun r2 =>
    if r2 = 0 then
      some ((-1), s)
    else
      ldS 6 x1 fun j3 =>
      ldS 6 x3 fun j4 =>
      bO (fX7_isEmpty j3 s) fun r5 =>
      if r5 = 0 then
        bO (fX7_isEmpty j4 s) fun r6 =>
        if r6 = 0 then
          bO (fX7_isRow j3 s) fun r7 =>
          if r7 = 0 then
            some ((-12), s)
          else
            bO (fX7_isRowOf j4 (gI s (iS_sort j3)) s) fun r8 =>
            if r8 = 0 then
              some ((-12), s)
            else
              bO (fX7_hasSpan j3 x2 x5 s) fun r9 =>
              if r9 = 0 then
                some ((-13), s)
              else
                bO (fX7_hasSpan j4 x4 x5 s) fun r10 =>
                if r10 = 0 then
                  some ((-13), s)
                else
                  cpL s (lS_cells j3) 60 (lS_cells j4) 60 x2 x4 x5 fun s11 =>
                  some (x5, s11)
        else
          some ((-11), s)
      else
        some ((-11), s)

set_option maxRecDepth 20000 in
theorem tX10_shift {ρ : mRo} {d : Nat} {P : mPo} {V : mS → List mE} (hV : mView LC V)  {x1 : Int32} {x2 : Int32} {x3 : Int32} {x4 : Int32} {x5 : Int32} {s : mS} {res : (Int32 × mS)} (hf : fX10_shift x1 x2 x3 x4 x5 s = some res) (hP : P (some (.int res.1)) (V res.2)) : mC ρ (d + 2) 107 [.ref qT, .int x1, .int x2, .int x3, .int x4, .int x5] (V s) P := by
  refine ⟨_, rfl, Nat.le_of_ble_eq_true rfl, by decide, ?_⟩
  show mG ρ (mC ρ (d + 1)) 10 8 cX10_shift (some .int) P 0 [(0, .ref qT), (1, .int x1), (2, .int x2), (3, .int x3), (4, .int x4), (5, .int x5)] [] (V s)
  unfold fX10_shift at hf
  refine e_iload_n 1 dX10_shift_0 rfl rfl ?_
  obtain ⟨r1, hg, hf⟩ := bO_some hf
  refine e_callS (as := [.int x1]) (v := (some (.int r1))) (s' := s) dX10_shift_1 rfl rfl rfl rfl rfl (Nat.le_of_ble_eq_true rfl) (fun Q hQ => tX10_isShelf (d := d) hV  hg hQ) ?_
  refine e_if_eq 14 dX10_shift_4 (by decide) hf (fun hf => ?_) (fun hf => ?_)
  · refine e_iconst (w := (-1)) dX10_shift_14 (by decide) ?_
    obtain rfl := Option.some.inj hf
    exact e_iret dX10_shift_15 trivial hP
  · refine e_iload_n 3 dX10_shift_7 rfl rfl ?_
    obtain ⟨r2, hg, hf⟩ := bO_some hf
    refine e_callS (as := [.int x3]) (v := (some (.int r2))) (s' := s) dX10_shift_8 rfl rfl rfl rfl rfl (Nat.le_of_ble_eq_true rfl) (fun Q hQ => tX10_isShelf (d := d) hV  hg hQ) ?_
    refine e_if_ne 16 dX10_shift_11 (by decide) hf (fun hf => ?_) (fun hf => ?_)
    · refine e_aload_n 0 dX10_shift_16 rfl rfl ?_
      refine e_getr hV dX10_shift_17 rfl lc_T rfl ?_
      refine e_iload_n 1 dX10_shift_20 rfl rfl ?_
      refine e_aald hV dX10_shift_21 lc_T_shelves rfl lc_T_shelves_at hf (fun j3 hj3 hf => ?_)
      refine e_astore dX10_shift_22 (by decide) ?_
      refine e_aload_n 1 dX10_shift_24 rfl rfl ?_
      refine e_getr hV dX10_shift_25 rfl lc_T rfl ?_
      refine e_iload_n 4 dX10_shift_28 rfl rfl ?_
      refine e_aald hV dX10_shift_29 lc_T_shelves rfl lc_T_shelves_at hf (fun j4 hj4 hf => ?_)
      refine e_astore dX10_shift_30 (by decide) ?_
      refine e_aload 1 dX10_shift_32 rfl ?_
      obtain ⟨r5, hg, hf⟩ := bO_some hf
      refine e_callV (as := []) (v := (some (.int r5))) (s' := s) hV dX10_shift_34 (Or.inl rfl) rfl rfl rfl rfl (Nat.le_of_ble_eq_true rfl) (lc_S hj3) rfl rfl (fun Q hQ => tX7_isEmpty (d := d) hV hj3 hg hQ) ?_
      refine e_if_ne 48 dX10_shift_37 (by decide) hf (fun hf => ?_) (fun hf => ?_)
      · refine e_bipush (w := (-11)) dX10_shift_48 (by decide) ?_
        obtain rfl := Option.some.inj hf
        exact e_iret dX10_shift_50 trivial hP
      · refine e_aload 0 dX10_shift_40 rfl ?_
        obtain ⟨r6, hg, hf⟩ := bO_some hf
        refine e_callV (as := []) (v := (some (.int r6))) (s' := s) hV dX10_shift_42 (Or.inl rfl) rfl rfl rfl rfl (Nat.le_of_ble_eq_true rfl) (lc_S hj4) rfl rfl (fun Q hQ => tX7_isEmpty (d := d) hV hj4 hg hQ) ?_
        refine e_if_eq 51 dX10_shift_45 (by decide) hf (fun hf => ?_) (fun hf => ?_)
        · refine e_aload 1 dX10_shift_51 rfl ?_
          obtain ⟨r7, hg, hf⟩ := bO_some hf
          refine e_callV (as := []) (v := (some (.int r7))) (s' := s) hV dX10_shift_53 (Or.inl rfl) rfl rfl rfl rfl (Nat.le_of_ble_eq_true rfl) (lc_S hj3) rfl rfl (fun Q hQ => tX7_isRow (d := d) hV hj3 hg hQ) ?_
          refine e_if_eq 72 dX10_shift_56 (by decide) hf (fun hf => ?_) (fun hf => ?_)
          · refine e_bipush (w := (-12)) dX10_shift_72 (by decide) ?_
            obtain rfl := Option.some.inj hf
            exact e_iret dX10_shift_74 trivial hP
          · refine e_aload 0 dX10_shift_59 rfl ?_
            refine e_aload 1 dX10_shift_61 rfl ?_
            refine e_geti hV dX10_shift_63 rfl (lc_S hj3) rfl ?_
            obtain ⟨r8, hg, hf⟩ := bO_some hf
            refine e_callV (as := [.int (gI s (iS_sort j3))]) (v := (some (.int r8))) (s' := s) hV dX10_shift_66 (Or.inl rfl) rfl rfl rfl rfl (Nat.le_of_ble_eq_true rfl) (lc_S hj4) rfl rfl (fun Q hQ => tX7_isRowOf (d := d) hV hj4 hg hQ) ?_
            refine e_if_ne 75 dX10_shift_69 (by decide) hf (fun hf => ?_) (fun hf => ?_)
            · refine e_aload 1 dX10_shift_75 rfl ?_
              refine e_iload_n 4 dX10_shift_77 rfl rfl ?_
              refine e_iload 7 dX10_shift_78 rfl ?_
              obtain ⟨r9, hg, hf⟩ := bO_some hf
              refine e_callV (as := [.int x2, .int x5]) (v := (some (.int r9))) (s' := s) hV dX10_shift_80 (Or.inl rfl) rfl rfl rfl rfl (Nat.le_of_ble_eq_true rfl) (lc_S hj3) rfl rfl (fun Q hQ => tX7_hasSpan (d := d) hV hj3 hg hQ) ?_
              refine e_if_eq 98 dX10_shift_83 (by decide) hf (fun hf => ?_) (fun hf => ?_)
              · refine e_bipush (w := (-13)) dX10_shift_98 (by decide) ?_
                obtain rfl := Option.some.inj hf
                exact e_iret dX10_shift_100 trivial hP
              · refine e_aload 0 dX10_shift_86 rfl ?_
                refine e_iload 6 dX10_shift_88 rfl ?_
                refine e_iload 7 dX10_shift_90 rfl ?_
                obtain ⟨r10, hg, hf⟩ := bO_some hf
                refine e_callV (as := [.int x4, .int x5]) (v := (some (.int r10))) (s' := s) hV dX10_shift_92 (Or.inl rfl) rfl rfl rfl rfl (Nat.le_of_ble_eq_true rfl) (lc_S hj4) rfl rfl (fun Q hQ => tX7_hasSpan (d := d) hV hj4 hg hQ) ?_
                refine e_if_ne 101 dX10_shift_95 (by decide) hf (fun hf => ?_) (fun hf => ?_)
                · refine e_aload 1 dX10_shift_101 rfl ?_
                  refine e_getr hV dX10_shift_103 rfl (lc_S hj3) rfl ?_
                  refine e_iload_n 4 dX10_shift_106 rfl rfl ?_
                  refine e_aload 0 dX10_shift_107 rfl ?_
                  refine e_getr hV dX10_shift_109 rfl (lc_S hj4) rfl ?_
                  refine e_iload 6 dX10_shift_112 rfl ?_
                  refine e_iload 7 dX10_shift_114 rfl ?_
                  refine e_cpL hV dX10_shift_116 (by decide) (Nat.le_of_ble_eq_true rfl) (lc_S_cells hj3) (lc_S_cells hj4) hf (fun s11 hf => ?_)
                  refine e_iload 7 dX10_shift_119 rfl ?_
                  obtain rfl := Option.some.inj hf
                  exact e_iret dX10_shift_121 trivial hP
                · refine e_bipush (w := (-13)) dX10_shift_98 (by decide) ?_
                  obtain rfl := Option.some.inj hf
                  exact e_iret dX10_shift_100 trivial hP
            · refine e_bipush (w := (-12)) dX10_shift_72 (by decide) ?_
              obtain rfl := Option.some.inj hf
              exact e_iret dX10_shift_74 trivial hP
        · refine e_bipush (w := (-11)) dX10_shift_48 (by decide) ?_
          obtain rfl := Option.some.inj hf
          exact e_iret dX10_shift_50 trivial hP
    · refine e_iconst (w := (-1)) dX10_shift_14 (by decide) ?_
      obtain rfl := Option.some.inj hf
      exact e_iret dX10_shift_15 trivial hP

theorem dX10_taken_0 : decode cX10_taken 0 = .ok (.iload_n 1, 1) := by decide +kernel
theorem dX10_taken_1 : decode cX10_taken 1 = .ok (.invokestatic 99, 3) := by decide +kernel
theorem dX10_taken_4 : decode cX10_taken 4 = .ok (.ifCond .eq 13, 3) := by decide +kernel
theorem dX10_taken_7 : decode cX10_taken 7 = .ok (.iload_n 2, 1) := by decide +kernel
theorem dX10_taken_8 : decode cX10_taken 8 = .ok (.ifCond .lt 9, 3) := by decide +kernel
theorem dX10_taken_11 : decode cX10_taken 11 = .ok (.iload_n 2, 1) := by decide +kernel
theorem dX10_taken_12 : decode cX10_taken 12 = .ok (.bipush 8, 2) := by decide +kernel
theorem dX10_taken_14 : decode cX10_taken 14 = .ok (.if_icmp .lt 5, 3) := by decide +kernel
theorem dX10_taken_17 : decode cX10_taken 17 = .ok (.iconst (-1), 1) := by decide +kernel
theorem dX10_taken_18 : decode cX10_taken 18 = .ok (.ireturn, 1) := by decide +kernel
theorem dX10_taken_19 : decode cX10_taken 19 = .ok (.aload_n 0, 1) := by decide +kernel
theorem dX10_taken_20 : decode cX10_taken 20 = .ok (.getfield 42, 3) := by decide +kernel
theorem dX10_taken_23 : decode cX10_taken 23 = .ok (.iload_n 1, 1) := by decide +kernel
theorem dX10_taken_24 : decode cX10_taken 24 = .ok (.aaload, 1) := by decide +kernel
theorem dX10_taken_25 : decode cX10_taken 25 = .ok (.astore_n 3, 1) := by decide +kernel
theorem dX10_taken_26 : decode cX10_taken 26 = .ok (.aload_n 3, 1) := by decide +kernel
theorem dX10_taken_27 : decode cX10_taken 27 = .ok (.invokevirtual 103, 3) := by decide +kernel
theorem dX10_taken_30 : decode cX10_taken 30 = .ok (.ifCond .eq 6, 3) := by decide +kernel
theorem dX10_taken_33 : decode cX10_taken 33 = .ok (.bipush (-11), 2) := by decide +kernel
theorem dX10_taken_35 : decode cX10_taken 35 = .ok (.ireturn, 1) := by decide +kernel
theorem dX10_taken_36 : decode cX10_taken 36 = .ok (.aload_n 3, 1) := by decide +kernel
theorem dX10_taken_37 : decode cX10_taken 37 = .ok (.invokevirtual 377, 3) := by decide +kernel
theorem dX10_taken_40 : decode cX10_taken 40 = .ok (.ifCond .ne 36, 3) := by decide +kernel
theorem dX10_taken_43 : decode cX10_taken 43 = .ok (.aload_n 0, 1) := by decide +kernel
theorem dX10_taken_44 : decode cX10_taken 44 = .ok (.getfield 56, 3) := by decide +kernel
theorem dX10_taken_47 : decode cX10_taken 47 = .ok (.aload_n 3, 1) := by decide +kernel
theorem dX10_taken_48 : decode cX10_taken 48 = .ok (.getfield 392, 3) := by decide +kernel
theorem dX10_taken_51 : decode cX10_taken 51 = .ok (.invokevirtual 347, 3) := by decide +kernel
theorem dX10_taken_54 : decode cX10_taken 54 = .ok (.ifCond .eq 22, 3) := by decide +kernel
theorem dX10_taken_57 : decode cX10_taken 57 = .ok (.aload_n 0, 1) := by decide +kernel
theorem dX10_taken_58 : decode cX10_taken 58 = .ok (.getfield 56, 3) := by decide +kernel
theorem dX10_taken_61 : decode cX10_taken 61 = .ok (.getfield 348, 3) := by decide +kernel
theorem dX10_taken_64 : decode cX10_taken 64 = .ok (.aload_n 3, 1) := by decide +kernel
theorem dX10_taken_65 : decode cX10_taken 65 = .ok (.getfield 392, 3) := by decide +kernel
theorem dX10_taken_68 : decode cX10_taken 68 = .ok (.iaload, 1) := by decide +kernel
theorem dX10_taken_69 : decode cX10_taken 69 = .ok (.iload_n 2, 1) := by decide +kernel
theorem dX10_taken_70 : decode cX10_taken 70 = .ok (.invokestatic 395, 3) := by decide +kernel
theorem dX10_taken_73 : decode cX10_taken 73 = .ok (.ifCond .ne 6, 3) := by decide +kernel
theorem dX10_taken_76 : decode cX10_taken 76 = .ok (.bipush (-12), 2) := by decide +kernel
theorem dX10_taken_78 : decode cX10_taken 78 = .ok (.ireturn, 1) := by decide +kernel
theorem dX10_taken_79 : decode cX10_taken 79 = .ok (.aload_n 0, 1) := by decide +kernel
theorem dX10_taken_80 : decode cX10_taken 80 = .ok (.getfield 56, 3) := by decide +kernel
theorem dX10_taken_83 : decode cX10_taken 83 = .ok (.getfield 348, 3) := by decide +kernel
theorem dX10_taken_86 : decode cX10_taken 86 = .ok (.aload_n 3, 1) := by decide +kernel
theorem dX10_taken_87 : decode cX10_taken 87 = .ok (.getfield 392, 3) := by decide +kernel
theorem dX10_taken_90 : decode cX10_taken 90 = .ok (.iaload, 1) := by decide +kernel
theorem dX10_taken_91 : decode cX10_taken 91 = .ok (.ireturn, 1) := by decide +kernel
def fX10_taken (x1 : Int32) (x2 : Int32) (s : mS) : Option Int32 :=
  bO (fX10_isShelf x1 s) fun r1 =>
  if r1 = 0 then
    some (-1)
  else
    if x2 < 0 then
      some (-1)
    else
      if x2 < (nI 8) then
        ldS 6 x1 fun j2 =>
        bO (fX7_isEmpty j2 s) fun r3 =>
        if r3 = 0 then
          bO (fX7_isRow j2 s) fun r4 =>
          if r4 = 0 then
            bO (fX3_has (gI s (iS_ghost j2)) s) fun r5 =>
            if r5 = 0 then
              some (-12)
            else
              ldA s aU_kinds 50 (gI s (iS_ghost j2)) fun v6 =>
              bO (fX3_isUnder v6 x2 s) fun r7 =>
              if r7 = 0 then
                some (-12)
              else
                ldA s aU_kinds 50 (gI s (iS_ghost j2)) fun v8 =>
                some v8
          else
            some (-12)
        else
          some (-11)
      else
        some (-1)

set_option maxRecDepth 20000 in
theorem tX10_taken {ρ : mRo} {d : Nat} {P : mPo} {V : mS → List mE} (hV : mView LC V) (hr : mRoC ρ)  {x1 : Int32} {x2 : Int32} {s : mS} {res : Int32} (hf : fX10_taken x1 x2 s = some res) (hP : P (some (.int res)) (V s)) : mC ρ (d + 2) 108 [.ref qT, .int x1, .int x2] (V s) P := by
  refine ⟨_, rfl, Nat.le_of_ble_eq_true rfl, by decide, ?_⟩
  show mG ρ (mC ρ (d + 1)) 10 4 cX10_taken (some .int) P 0 [(0, .ref qT), (1, .int x1), (2, .int x2)] [] (V s)
  unfold fX10_taken at hf
  refine e_iload_n 1 dX10_taken_0 rfl rfl ?_
  obtain ⟨r1, hg, hf⟩ := bO_some hf
  refine e_callS (as := [.int x1]) (v := (some (.int r1))) (s' := s) dX10_taken_1 rfl rfl rfl rfl rfl (Nat.le_of_ble_eq_true rfl) (fun Q hQ => tX10_isShelf (d := d) hV  hg hQ) ?_
  refine e_if_eq 17 dX10_taken_4 (by decide) hf (fun hf => ?_) (fun hf => ?_)
  · refine e_iconst (w := (-1)) dX10_taken_17 (by decide) ?_
    obtain rfl := Option.some.inj hf
    exact e_iret dX10_taken_18 trivial hP
  · refine e_iload_n 2 dX10_taken_7 rfl rfl ?_
    refine e_if_lt 17 dX10_taken_8 (by decide) hf (fun hf => ?_) (fun hf => ?_)
    · refine e_iconst (w := (-1)) dX10_taken_17 (by decide) ?_
      obtain rfl := Option.some.inj hf
      exact e_iret dX10_taken_18 trivial hP
    · refine e_iload_n 2 dX10_taken_11 rfl rfl ?_
      refine e_bipush (w := (nI 8)) dX10_taken_12 (by decide) ?_
      refine e_icmp_lt 19 dX10_taken_14 (by decide) hf (fun hf => ?_) (fun hf => ?_)
      · refine e_aload_n 0 dX10_taken_19 rfl rfl ?_
        refine e_getr hV dX10_taken_20 rfl lc_T rfl ?_
        refine e_iload_n 1 dX10_taken_23 rfl rfl ?_
        refine e_aald hV dX10_taken_24 lc_T_shelves rfl lc_T_shelves_at hf (fun j2 hj2 hf => ?_)
        refine e_astore_n dX10_taken_25 rfl (by decide) ?_
        refine e_aload_n 0 dX10_taken_26 rfl rfl ?_
        obtain ⟨r3, hg, hf⟩ := bO_some hf
        refine e_callV (as := []) (v := (some (.int r3))) (s' := s) hV dX10_taken_27 (Or.inl rfl) rfl rfl rfl rfl (Nat.le_of_ble_eq_true rfl) (lc_S hj2) rfl rfl (fun Q hQ => tX7_isEmpty (d := d) hV hj2 hg hQ) ?_
        refine e_if_eq 36 dX10_taken_30 (by decide) hf (fun hf => ?_) (fun hf => ?_)
        · refine e_aload_n 0 dX10_taken_36 rfl rfl ?_
          obtain ⟨r4, hg, hf⟩ := bO_some hf
          refine e_callV (as := []) (v := (some (.int r4))) (s' := s) hV dX10_taken_37 (Or.inl rfl) rfl rfl rfl rfl (Nat.le_of_ble_eq_true rfl) (lc_S hj2) rfl rfl (fun Q hQ => tX7_isRow (d := d) hV hj2 hg hQ) ?_
          refine e_if_ne 76 dX10_taken_40 (by decide) hf (fun hf => ?_) (fun hf => ?_)
          · refine e_bipush (w := (-12)) dX10_taken_76 (by decide) ?_
            obtain rfl := Option.some.inj hf
            exact e_iret dX10_taken_78 trivial hP
          · refine e_aload_n 1 dX10_taken_43 rfl rfl ?_
            refine e_getr hV dX10_taken_44 rfl lc_T rfl ?_
            refine e_aload_n 0 dX10_taken_47 rfl rfl ?_
            refine e_geti hV dX10_taken_48 rfl (lc_S hj2) rfl ?_
            obtain ⟨r5, hg, hf⟩ := bO_some hf
            refine e_callV (as := [.int (gI s (iS_ghost j2))]) (v := (some (.int r5))) (s' := s) hV dX10_taken_51 (Or.inl rfl) rfl rfl rfl rfl (Nat.le_of_ble_eq_true rfl) lc_U rfl rfl (fun Q hQ => tX3_has (d := d) hV  hg hQ) ?_
            refine e_if_eq 76 dX10_taken_54 (by decide) hf (fun hf => ?_) (fun hf => ?_)
            · refine e_bipush (w := (-12)) dX10_taken_76 (by decide) ?_
              obtain rfl := Option.some.inj hf
              exact e_iret dX10_taken_78 trivial hP
            · refine e_aload_n 1 dX10_taken_57 rfl rfl ?_
              refine e_getr hV dX10_taken_58 rfl lc_T rfl ?_
              refine e_getr hV dX10_taken_61 rfl lc_U rfl ?_
              refine e_aload_n 0 dX10_taken_64 rfl rfl ?_
              refine e_geti hV dX10_taken_65 rfl (lc_S hj2) rfl ?_
              refine e_iald hV dX10_taken_68 lc_U_kinds hf (fun v6 hf => ?_)
              refine e_iload_n 3 dX10_taken_69 rfl rfl ?_
              obtain ⟨r7, hg, hf⟩ := bO_some hf
              refine e_callS (as := [.int v6, .int x2]) (v := (some (.int r7))) (s' := s) dX10_taken_70 rfl rfl rfl rfl rfl (Nat.le_of_ble_eq_true rfl) (fun Q hQ => tX3_isUnder (d := d) hV hr  hg hQ) ?_
              refine e_if_ne 79 dX10_taken_73 (by decide) hf (fun hf => ?_) (fun hf => ?_)
              · refine e_aload_n 1 dX10_taken_79 rfl rfl ?_
                refine e_getr hV dX10_taken_80 rfl lc_T rfl ?_
                refine e_getr hV dX10_taken_83 rfl lc_U rfl ?_
                refine e_aload_n 0 dX10_taken_86 rfl rfl ?_
                refine e_geti hV dX10_taken_87 rfl (lc_S hj2) rfl ?_
                refine e_iald hV dX10_taken_90 lc_U_kinds hf (fun v8 hf => ?_)
                obtain rfl := Option.some.inj hf
                exact e_iret dX10_taken_91 trivial hP
              · refine e_bipush (w := (-12)) dX10_taken_76 (by decide) ?_
                obtain rfl := Option.some.inj hf
                exact e_iret dX10_taken_78 trivial hP
        · refine e_bipush (w := (-11)) dX10_taken_33 (by decide) ?_
          obtain rfl := Option.some.inj hf
          exact e_iret dX10_taken_35 trivial hP
      · refine e_iconst (w := (-1)) dX10_taken_17 (by decide) ?_
        obtain rfl := Option.some.inj hf
        exact e_iret dX10_taken_18 trivial hP

theorem dX10_count_0 : decode cX10_count 0 = .ok (.iload_n 1, 1) := by decide +kernel
theorem dX10_count_1 : decode cX10_count 1 = .ok (.tableswitch 87 0 5 #[39, 47, 55, 63, 71, 79], 39) := by decide +kernel
theorem dX10_count_40 : decode cX10_count 40 = .ok (.aload_n 0, 1) := by decide +kernel
theorem dX10_count_41 : decode cX10_count 41 = .ok (.getfield 10, 3) := by decide +kernel
theorem dX10_count_44 : decode cX10_count 44 = .ok (.getfield 216, 3) := by decide +kernel
theorem dX10_count_47 : decode cX10_count 47 = .ok (.ireturn, 1) := by decide +kernel
theorem dX10_count_48 : decode cX10_count 48 = .ok (.aload_n 0, 1) := by decide +kernel
theorem dX10_count_49 : decode cX10_count 49 = .ok (.getfield 22, 3) := by decide +kernel
theorem dX10_count_52 : decode cX10_count 52 = .ok (.getfield 215, 3) := by decide +kernel
theorem dX10_count_55 : decode cX10_count 55 = .ok (.ireturn, 1) := by decide +kernel
theorem dX10_count_56 : decode cX10_count 56 = .ok (.aload_n 0, 1) := by decide +kernel
theorem dX10_count_57 : decode cX10_count 57 = .ok (.getfield 29, 3) := by decide +kernel
theorem dX10_count_60 : decode cX10_count 60 = .ok (.getfield 156, 3) := by decide +kernel
theorem dX10_count_63 : decode cX10_count 63 = .ok (.ireturn, 1) := by decide +kernel
theorem dX10_count_64 : decode cX10_count 64 = .ok (.aload_n 0, 1) := by decide +kernel
theorem dX10_count_65 : decode cX10_count 65 = .ok (.getfield 49, 3) := by decide +kernel
theorem dX10_count_68 : decode cX10_count 68 = .ok (.getfield 324, 3) := by decide +kernel
theorem dX10_count_71 : decode cX10_count 71 = .ok (.ireturn, 1) := by decide +kernel
theorem dX10_count_72 : decode cX10_count 72 = .ok (.aload_n 0, 1) := by decide +kernel
theorem dX10_count_73 : decode cX10_count 73 = .ok (.getfield 56, 3) := by decide +kernel
theorem dX10_count_76 : decode cX10_count 76 = .ok (.getfield 398, 3) := by decide +kernel
theorem dX10_count_79 : decode cX10_count 79 = .ok (.ireturn, 1) := by decide +kernel
theorem dX10_count_80 : decode cX10_count 80 = .ok (.aload_n 0, 1) := by decide +kernel
theorem dX10_count_81 : decode cX10_count 81 = .ok (.getfield 56, 3) := by decide +kernel
theorem dX10_count_84 : decode cX10_count 84 = .ok (.getfield 344, 3) := by decide +kernel
theorem dX10_count_87 : decode cX10_count 87 = .ok (.ireturn, 1) := by decide +kernel
theorem dX10_count_88 : decode cX10_count 88 = .ok (.iconst (-1), 1) := by decide +kernel
theorem dX10_count_89 : decode cX10_count 89 = .ok (.ireturn, 1) := by decide +kernel
def fX10_count (x1 : Int32) (s : mS) : Option Int32 :=
  if x1 = (nI 0) then
    some (gI s (iM_size 0))
  else if x1 = (nI 1) then
    some (gI s (iW_size 0))
  else if x1 = (nI 2) then
    some (gI s iP_size)
  else if x1 = (nI 3) then
    some (gI s iH_done)
  else if x1 = (nI 4) then
    some (gI s iU_size)
  else if x1 = (nI 5) then
    some (gI s iU_ran)
  else
    some (-1)

set_option maxRecDepth 20000 in
theorem tX10_count {ρ : mRo} {d : Nat} {P : mPo} {V : mS → List mE} (hV : mView LC V)  {x1 : Int32} {s : mS} {res : Int32} (hf : fX10_count x1 s = some res) (hP : P (some (.int res)) (V s)) : mC ρ (d + 1) 109 [.ref qT, .int x1] (V s) P := by
  refine ⟨_, rfl, Nat.le_of_ble_eq_true rfl, by decide, ?_⟩
  show mG ρ (mC ρ d) 10 2 cX10_count (some .int) P 0 [(0, .ref qT), (1, .int x1)] [] (V s)
  unfold fX10_count at hf
  refine e_iload_n 1 dX10_count_0 rfl rfl ?_
  by_cases hc0 : x1 = (nI 0)
  · rw [if_pos hc0] at hf
    refine e_tabI (off := 39) (tgt := 40) dX10_count_1 hc0 (by decide) (by decide) ?_
    refine e_aload_n 0 dX10_count_40 rfl rfl ?_
    refine e_getr hV dX10_count_41 rfl lc_T rfl ?_
    refine e_geti hV dX10_count_44 rfl (lc_M (by decide)) rfl ?_
    obtain rfl := Option.some.inj hf
    exact e_iret dX10_count_47 trivial hP
  rw [if_neg hc0] at hf
  by_cases hc1 : x1 = (nI 1)
  · rw [if_pos hc1] at hf
    refine e_tabI (off := 47) (tgt := 48) dX10_count_1 hc1 (by decide) (by decide) ?_
    refine e_aload_n 0 dX10_count_48 rfl rfl ?_
    refine e_getr hV dX10_count_49 rfl lc_T rfl ?_
    refine e_geti hV dX10_count_52 rfl (lc_W (by decide)) rfl ?_
    obtain rfl := Option.some.inj hf
    exact e_iret dX10_count_55 trivial hP
  rw [if_neg hc1] at hf
  by_cases hc2 : x1 = (nI 2)
  · rw [if_pos hc2] at hf
    refine e_tabI (off := 55) (tgt := 56) dX10_count_1 hc2 (by decide) (by decide) ?_
    refine e_aload_n 0 dX10_count_56 rfl rfl ?_
    refine e_getr hV dX10_count_57 rfl lc_T rfl ?_
    refine e_geti hV dX10_count_60 rfl lc_P rfl ?_
    obtain rfl := Option.some.inj hf
    exact e_iret dX10_count_63 trivial hP
  rw [if_neg hc2] at hf
  by_cases hc3 : x1 = (nI 3)
  · rw [if_pos hc3] at hf
    refine e_tabI (off := 63) (tgt := 64) dX10_count_1 hc3 (by decide) (by decide) ?_
    refine e_aload_n 0 dX10_count_64 rfl rfl ?_
    refine e_getr hV dX10_count_65 rfl lc_T rfl ?_
    refine e_geti hV dX10_count_68 rfl lc_H rfl ?_
    obtain rfl := Option.some.inj hf
    exact e_iret dX10_count_71 trivial hP
  rw [if_neg hc3] at hf
  by_cases hc4 : x1 = (nI 4)
  · rw [if_pos hc4] at hf
    refine e_tabI (off := 71) (tgt := 72) dX10_count_1 hc4 (by decide) (by decide) ?_
    refine e_aload_n 0 dX10_count_72 rfl rfl ?_
    refine e_getr hV dX10_count_73 rfl lc_T rfl ?_
    refine e_geti hV dX10_count_76 rfl lc_U rfl ?_
    obtain rfl := Option.some.inj hf
    exact e_iret dX10_count_79 trivial hP
  rw [if_neg hc4] at hf
  by_cases hc5 : x1 = (nI 5)
  · rw [if_pos hc5] at hf
    refine e_tabI (off := 79) (tgt := 80) dX10_count_1 hc5 (by decide) (by decide) ?_
    refine e_aload_n 0 dX10_count_80 rfl rfl ?_
    refine e_getr hV dX10_count_81 rfl lc_T rfl ?_
    refine e_geti hV dX10_count_84 rfl lc_U rfl ?_
    obtain rfl := Option.some.inj hf
    exact e_iret dX10_count_87 trivial hP
  rw [if_neg hc5] at hf
  refine e_tabD (tgt := 88) (ks := [(nI 0), (nI 1), (nI 2), (nI 3), (nI 4), (nI 5)]) dX10_count_1 (by decide) (fun z hz => ?_) ?_
  · simp only [List.mem_cons, List.not_mem_nil, or_false] at hz
    rcases hz with rfl | rfl | rfl | rfl | rfl | rfl
    · exact hc0
    · exact hc1
    · exact hc2
    · exact hc3
    · exact hc4
    · exact hc5
  refine e_iconst (w := (-1)) dX10_count_88 (by decide) ?_
  obtain rfl := Option.some.inj hf
  exact e_iret dX10_count_89 trivial hP
