-- bytecode to functions, by program (wip/gen/decomp.py)
theorem dX11_asSort_0 : decode cX11_asSort 0 = .ok (.iload_n 0, 1) := by decide +kernel
theorem dX11_asSort_1 : decode cX11_asSort 1 = .ok (.ifCond .ne 10, 3) := by decide +kernel
theorem dX11_asSort_4 : decode cX11_asSort 4 = .ok (.lload_n 1, 1) := by decide +kernel
theorem dX11_asSort_5 : decode cX11_asSort 5 = .ok (.l2i, 1) := by decide +kernel
theorem dX11_asSort_6 : decode cX11_asSort 6 = .ok (.i2b, 1) := by decide +kernel
theorem dX11_asSort_7 : decode cX11_asSort 7 = .ok (.i2l, 1) := by decide +kernel
theorem dX11_asSort_8 : decode cX11_asSort 8 = .ok (.goto 46, 3) := by decide +kernel
theorem dX11_asSort_11 : decode cX11_asSort 11 = .ok (.iload_n 0, 1) := by decide +kernel
theorem dX11_asSort_12 : decode cX11_asSort 12 = .ok (.iconst 1, 1) := by decide +kernel
theorem dX11_asSort_13 : decode cX11_asSort 13 = .ok (.if_icmp .ne 10, 3) := by decide +kernel
theorem dX11_asSort_16 : decode cX11_asSort 16 = .ok (.lload_n 1, 1) := by decide +kernel
theorem dX11_asSort_17 : decode cX11_asSort 17 = .ok (.l2i, 1) := by decide +kernel
theorem dX11_asSort_18 : decode cX11_asSort 18 = .ok (.i2s, 1) := by decide +kernel
theorem dX11_asSort_19 : decode cX11_asSort 19 = .ok (.i2l, 1) := by decide +kernel
theorem dX11_asSort_20 : decode cX11_asSort 20 = .ok (.goto 34, 3) := by decide +kernel
theorem dX11_asSort_23 : decode cX11_asSort 23 = .ok (.iload_n 0, 1) := by decide +kernel
theorem dX11_asSort_24 : decode cX11_asSort 24 = .ok (.iconst 2, 1) := by decide +kernel
theorem dX11_asSort_25 : decode cX11_asSort 25 = .ok (.if_icmp .ne 9, 3) := by decide +kernel
theorem dX11_asSort_28 : decode cX11_asSort 28 = .ok (.lload_n 1, 1) := by decide +kernel
theorem dX11_asSort_29 : decode cX11_asSort 29 = .ok (.l2i, 1) := by decide +kernel
theorem dX11_asSort_30 : decode cX11_asSort 30 = .ok (.i2l, 1) := by decide +kernel
theorem dX11_asSort_31 : decode cX11_asSort 31 = .ok (.goto 23, 3) := by decide +kernel
theorem dX11_asSort_34 : decode cX11_asSort 34 = .ok (.iload_n 0, 1) := by decide +kernel
theorem dX11_asSort_35 : decode cX11_asSort 35 = .ok (.iconst 4, 1) := by decide +kernel
theorem dX11_asSort_36 : decode cX11_asSort 36 = .ok (.if_icmp .ne 17, 3) := by decide +kernel
theorem dX11_asSort_39 : decode cX11_asSort 39 = .ok (.lload_n 1, 1) := by decide +kernel
theorem dX11_asSort_40 : decode cX11_asSort 40 = .ok (.lconst 0, 1) := by decide +kernel
theorem dX11_asSort_41 : decode cX11_asSort 41 = .ok (.lcmp, 1) := by decide +kernel
theorem dX11_asSort_42 : decode cX11_asSort 42 = .ok (.ifCond .eq 7, 3) := by decide +kernel
theorem dX11_asSort_45 : decode cX11_asSort 45 = .ok (.lconst 1, 1) := by decide +kernel
theorem dX11_asSort_46 : decode cX11_asSort 46 = .ok (.goto 8, 3) := by decide +kernel
theorem dX11_asSort_49 : decode cX11_asSort 49 = .ok (.lconst 0, 1) := by decide +kernel
theorem dX11_asSort_50 : decode cX11_asSort 50 = .ok (.goto 4, 3) := by decide +kernel
theorem dX11_asSort_53 : decode cX11_asSort 53 = .ok (.lload_n 1, 1) := by decide +kernel
theorem dX11_asSort_54 : decode cX11_asSort 54 = .ok (.lreturn, 1) := by decide +kernel
def fX11_asSort (x0 : Int32) (x1 : Int64) (s : mS) : Option Int64 :=
  if x0 = 0 then
    some (Int32.toInt64 ((Int32.toInt8 (Int64.toInt32 x1)).toInt32))
  else
    if x0 = (nI 1) then
      some (Int32.toInt64 ((Int32.toInt16 (Int64.toInt32 x1)).toInt32))
    else
      if x0 = (nI 2) then
        some (Int32.toInt64 (Int64.toInt32 x1))
      else
        if x0 = (nI 4) then
          if (lg_cmp x1 0) = 0 then
            some 0
          else
            some 1
        else
          some x1

set_option maxRecDepth 20000 in
theorem tX11_asSort {ρ : mRo} {d : Nat} {P : mPo} {V : mS → List mE} (hV : mView LX V)  {x0 : Int32} {x1 : Int64} {s : mS} {res : Int64} (hf : fX11_asSort x0 x1 s = some res) (hP : P (some (.long res)) (V s)) : mC ρ (d + 1) 226 [.int x0, .long x1] (V s) P := by
  refine ⟨_, rfl, Nat.le_of_ble_eq_true rfl, by decide, ?_⟩
  show mG ρ (mC ρ d) 11 3 cX11_asSort (some .long) P 0 [(0, .int x0), (1, .long x1)] [] (V s)
  unfold fX11_asSort at hf
  refine e_iload_n 0 dX11_asSort_0 rfl rfl ?_
  refine e_if_ne 11 dX11_asSort_1 (by decide) hf (fun hf => ?_) (fun hf => ?_)
  · refine e_iload_n 0 dX11_asSort_11 rfl rfl ?_
    refine e_iconst (w := (nI 1)) dX11_asSort_12 (by decide) ?_
    refine e_icmp_ne 23 dX11_asSort_13 (by decide) hf (fun hf => ?_) (fun hf => ?_)
    · refine e_iload_n 0 dX11_asSort_23 rfl rfl ?_
      refine e_iconst (w := (nI 2)) dX11_asSort_24 (by decide) ?_
      refine e_icmp_ne 34 dX11_asSort_25 (by decide) hf (fun hf => ?_) (fun hf => ?_)
      · refine e_iload_n 0 dX11_asSort_34 rfl rfl ?_
        refine e_iconst (w := (nI 4)) dX11_asSort_35 (by decide) ?_
        refine e_icmp_ne 53 dX11_asSort_36 (by decide) hf (fun hf => ?_) (fun hf => ?_)
        · refine e_lload_n 1 dX11_asSort_53 rfl rfl ?_
          obtain rfl := Option.some.inj hf
          exact e_lret dX11_asSort_54 rfl hP
        · refine e_lload_n 1 dX11_asSort_39 rfl rfl ?_
          refine e_lconst (w := 0) dX11_asSort_40 (by decide) ?_
          refine e_lcmp dX11_asSort_41 ?_
          refine e_if_eq 49 dX11_asSort_42 (by decide) hf (fun hf => ?_) (fun hf => ?_)
          · refine e_lconst (w := 0) dX11_asSort_49 (by decide) ?_
            refine e_goto 54 dX11_asSort_50 (by decide) ?_
            obtain rfl := Option.some.inj hf
            exact e_lret dX11_asSort_54 rfl hP
          · refine e_lconst (w := 1) dX11_asSort_45 (by decide) ?_
            refine e_goto 54 dX11_asSort_46 (by decide) ?_
            obtain rfl := Option.some.inj hf
            exact e_lret dX11_asSort_54 rfl hP
      · refine e_lload_n 1 dX11_asSort_28 rfl rfl ?_
        refine e_l2i dX11_asSort_29 ?_
        refine e_i2l dX11_asSort_30 ?_
        refine e_goto 54 dX11_asSort_31 (by decide) ?_
        obtain rfl := Option.some.inj hf
        exact e_lret dX11_asSort_54 rfl hP
    · refine e_lload_n 1 dX11_asSort_16 rfl rfl ?_
      refine e_l2i dX11_asSort_17 ?_
      refine e_i2s dX11_asSort_18 ?_
      refine e_i2l dX11_asSort_19 ?_
      refine e_goto 54 dX11_asSort_20 (by decide) ?_
      obtain rfl := Option.some.inj hf
      exact e_lret dX11_asSort_54 rfl hP
  · refine e_lload_n 1 dX11_asSort_4 rfl rfl ?_
    refine e_l2i dX11_asSort_5 ?_
    refine e_i2b dX11_asSort_6 ?_
    refine e_i2l dX11_asSort_7 ?_
    refine e_goto 54 dX11_asSort_8 (by decide) ?_
    obtain rfl := Option.some.inj hf
    exact e_lret dX11_asSort_54 rfl hP

theorem dX11_put_0 : decode cX11_put 0 = .ok (.aload_n 0, 1) := by decide +kernel
theorem dX11_put_1 : decode cX11_put 1 = .ok (.iload_n 1, 1) := by decide +kernel
theorem dX11_put_2 : decode cX11_put 2 = .ok (.iload_n 2, 1) := by decide +kernel
theorem dX11_put_3 : decode cX11_put 3 = .ok (.invokevirtual 317, 3) := by decide +kernel
theorem dX11_put_6 : decode cX11_put 6 = .ok (.istore 5, 2) := by decide +kernel
theorem dX11_put_8 : decode cX11_put 8 = .ok (.iload 5, 2) := by decide +kernel
theorem dX11_put_10 : decode cX11_put 10 = .ok (.ifCond .ne 27, 3) := by decide +kernel
theorem dX11_put_13 : decode cX11_put 13 = .ok (.aload_n 0, 1) := by decide +kernel
theorem dX11_put_14 : decode cX11_put 14 = .ok (.getfield 74, 3) := by decide +kernel
theorem dX11_put_17 : decode cX11_put 17 = .ok (.bipush 60, 2) := by decide +kernel
theorem dX11_put_19 : decode cX11_put 19 = .ok (.iload_n 1, 1) := by decide +kernel
theorem dX11_put_20 : decode cX11_put 20 = .ok (.imul, 1) := by decide +kernel
theorem dX11_put_21 : decode cX11_put 21 = .ok (.iload_n 2, 1) := by decide +kernel
theorem dX11_put_22 : decode cX11_put 22 = .ok (.iadd, 1) := by decide +kernel
theorem dX11_put_23 : decode cX11_put 23 = .ok (.aload_n 0, 1) := by decide +kernel
theorem dX11_put_24 : decode cX11_put 24 = .ok (.getfield 68, 3) := by decide +kernel
theorem dX11_put_27 : decode cX11_put 27 = .ok (.iload_n 1, 1) := by decide +kernel
theorem dX11_put_28 : decode cX11_put 28 = .ok (.iaload, 1) := by decide +kernel
theorem dX11_put_29 : decode cX11_put 29 = .ok (.bipush 50, 2) := by decide +kernel
theorem dX11_put_31 : decode cX11_put 31 = .ok (.isub, 1) := by decide +kernel
theorem dX11_put_32 : decode cX11_put 32 = .ok (.lload_n 3, 1) := by decide +kernel
theorem dX11_put_33 : decode cX11_put 33 = .ok (.invokestatic 320, 3) := by decide +kernel
theorem dX11_put_36 : decode cX11_put 36 = .ok (.lastore, 1) := by decide +kernel
theorem dX11_put_37 : decode cX11_put 37 = .ok (.iload 5, 2) := by decide +kernel
theorem dX11_put_39 : decode cX11_put 39 = .ok (.ifCond .ne 7, 3) := by decide +kernel
theorem dX11_put_42 : decode cX11_put 42 = .ok (.iconst 1, 1) := by decide +kernel
theorem dX11_put_43 : decode cX11_put 43 = .ok (.goto 5, 3) := by decide +kernel
theorem dX11_put_46 : decode cX11_put 46 = .ok (.iload 5, 2) := by decide +kernel
theorem dX11_put_48 : decode cX11_put 48 = .ok (.ireturn, 1) := by decide +kernel
def fX11_put_b37 (y5 : Int32) (s : mS) : Option (Int32 × mS) :=
  if y5 = 0 then
    some ((nI 1), s)
  else
    some (y5, s)

def fX11_put (x1 : Int32) (x2 : Int32) (x3 : Int64) (s : mS) : Option (Int32 × mS) :=
  bO (fX11_refusal x1 x2 s) fun r1 =>
  bnd r1 fun v2 =>
  if v2 = 0 then
    ldA s aX_shelf 6 x1 fun v3 =>
    bO (fX11_asSort (v3 - (nI 50)) x3 s) fun r4 =>
    stL s lX_items 360 (((nI 60) * x1) + x2) r4 fun s5 =>
    fX11_put_b37 v2 s5
  else
    fX11_put_b37 v2 s

set_option maxRecDepth 20000 in
theorem wX11_put_b37 {ρ : mRo} {d : Nat} {P : mPo} {V : mS → List mE} (hV : mView LX V)  {res : (Int32 × mS)} (hP : P (some (.int res.1)) (V res.2)) (y5 : Int32) (s : mS) (hf : fX11_put_b37 y5 s = some res) : mG ρ (mC ρ (d + 3)) 11 6 cX11_put (some .int) P 37 [(5, .int y5)] [] (V s) := by
  unfold fX11_put_b37 at hf
  refine e_iload 0 dX11_put_37 rfl ?_
  refine e_if_ne 46 dX11_put_39 (by decide) hf (fun hf => ?_) (fun hf => ?_)
  · refine e_iload 0 dX11_put_46 rfl ?_
    obtain rfl := Option.some.inj hf
    exact e_iret dX11_put_48 trivial hP
  · refine e_iconst (w := (nI 1)) dX11_put_42 (by decide) ?_
    refine e_goto 48 dX11_put_43 (by decide) ?_
    obtain rfl := Option.some.inj hf
    exact e_iret dX11_put_48 trivial hP
set_option maxRecDepth 20000 in
theorem tX11_put {ρ : mRo} {d : Nat} {P : mPo} {V : mS → List mE} (hV : mView LX V)  {x1 : Int32} {x2 : Int32} {x3 : Int64} {s : mS} {res : (Int32 × mS)} (hf : fX11_put x1 x2 x3 s = some res) (hP : P (some (.int res.1)) (V res.2)) : mC ρ (d + 4) 227 [.ref qX, .int x1, .int x2, .long x3] (V s) P := by
  refine ⟨_, rfl, Nat.le_of_ble_eq_true rfl, by decide, ?_⟩
  show mG ρ (mC ρ (d + 3)) 11 6 cX11_put (some .int) P 0 [(0, .ref qX), (1, .int x1), (2, .int x2), (3, .long x3)] [] (V s)
  unfold fX11_put at hf
  refine e_aload_n 0 dX11_put_0 rfl rfl ?_
  refine e_iload_n 1 dX11_put_1 rfl rfl ?_
  refine e_iload_n 2 dX11_put_2 rfl rfl ?_
  obtain ⟨r1, hg, hf⟩ := bO_some hf
  refine e_callV (as := [.int x1, .int x2]) (v := (some (.int r1))) (s' := s) hV dX11_put_3 (Or.inl rfl) rfl rfl rfl rfl (Nat.le_of_ble_eq_true rfl) lx_X rfl rfl (fun Q hQ => tX11_refusal (d := d) hV  hg hQ) ?_
  refine e_istore dX11_put_6 (by decide) hf (fun v2 hf => ?_)
  refine e_iload 0 dX11_put_8 rfl ?_
  refine e_if_ne 37 dX11_put_10 (by decide) hf (fun hf => ?_) (fun hf => ?_)
  · refine e_pick [0] rfl ?_
    exact wX11_put_b37 hV hP v2 s hf
  · refine e_aload_n 1 dX11_put_13 rfl rfl ?_
    refine e_getr hV dX11_put_14 rfl lx_X rfl ?_
    refine e_bipush (w := (nI 60)) dX11_put_17 (by decide) ?_
    refine e_iload_n 2 dX11_put_19 rfl rfl ?_
    refine e_imul dX11_put_20 ?_
    refine e_iload_n 3 dX11_put_21 rfl rfl ?_
    refine e_iadd dX11_put_22 ?_
    refine e_aload_n 1 dX11_put_23 rfl rfl ?_
    refine e_getr hV dX11_put_24 rfl lx_X rfl ?_
    refine e_iload_n 2 dX11_put_27 rfl rfl ?_
    refine e_iald hV dX11_put_28 lx_X_shelf hf (fun v3 hf => ?_)
    refine e_bipush (w := (nI 50)) dX11_put_29 (by decide) ?_
    refine e_isub dX11_put_31 ?_
    refine e_lload_n 4 dX11_put_32 rfl rfl ?_
    obtain ⟨r4, hg, hf⟩ := bO_some hf
    refine e_callS (as := [.int (v3 - (nI 50)), .long x3]) (v := (some (.long r4))) (s' := s) dX11_put_33 rfl rfl rfl rfl rfl (Nat.le_of_ble_eq_true rfl) (fun Q hQ => tX11_asSort (d := (d + 2)) hV  hg hQ) ?_
    refine e_last hV dX11_put_36 lx_X_items hf (fun s5 hf => ?_)
    refine e_pick [0] rfl ?_
    exact wX11_put_b37 hV hP v2 s5 hf

theorem dX11_element_0 : decode cX11_element 0 = .ok (.aload_n 0, 1) := by decide +kernel
theorem dX11_element_1 : decode cX11_element 1 = .ok (.iload_n 1, 1) := by decide +kernel
theorem dX11_element_2 : decode cX11_element 2 = .ok (.iload_n 2, 1) := by decide +kernel
theorem dX11_element_3 : decode cX11_element 3 = .ok (.invokevirtual 317, 3) := by decide +kernel
theorem dX11_element_6 : decode cX11_element 6 = .ok (.ifCond .eq 9, 3) := by decide +kernel
theorem dX11_element_9 : decode cX11_element 9 = .ok (.ldc2_w 326, 3) := by decide +kernel
theorem dX11_element_12 : decode cX11_element 12 = .ok (.goto 14, 3) := by decide +kernel
theorem dX11_element_15 : decode cX11_element 15 = .ok (.aload_n 0, 1) := by decide +kernel
theorem dX11_element_16 : decode cX11_element 16 = .ok (.getfield 74, 3) := by decide +kernel
theorem dX11_element_19 : decode cX11_element 19 = .ok (.bipush 60, 2) := by decide +kernel
theorem dX11_element_21 : decode cX11_element 21 = .ok (.iload_n 1, 1) := by decide +kernel
theorem dX11_element_22 : decode cX11_element 22 = .ok (.imul, 1) := by decide +kernel
theorem dX11_element_23 : decode cX11_element 23 = .ok (.iload_n 2, 1) := by decide +kernel
theorem dX11_element_24 : decode cX11_element 24 = .ok (.iadd, 1) := by decide +kernel
theorem dX11_element_25 : decode cX11_element 25 = .ok (.laload, 1) := by decide +kernel
theorem dX11_element_26 : decode cX11_element 26 = .ok (.lreturn, 1) := by decide +kernel
def fX11_element (x1 : Int32) (x2 : Int32) (s : mS) : Option Int64 :=
  bO (fX11_refusal x1 x2 s) fun r1 =>
  if r1 = 0 then
    ldL s lX_items 360 (((nI 60) * x1) + x2) fun v2 =>
    some v2
  else
    some (-9223372036854775808)

set_option maxRecDepth 20000 in
theorem tX11_element {ρ : mRo} {d : Nat} {P : mPo} {V : mS → List mE} (hV : mView LX V)  {x1 : Int32} {x2 : Int32} {s : mS} {res : Int64} (hf : fX11_element x1 x2 s = some res) (hP : P (some (.long res)) (V s)) : mC ρ (d + 4) 228 [.ref qX, .int x1, .int x2] (V s) P := by
  refine ⟨_, rfl, Nat.le_of_ble_eq_true rfl, by decide, ?_⟩
  show mG ρ (mC ρ (d + 3)) 11 3 cX11_element (some .long) P 0 [(0, .ref qX), (1, .int x1), (2, .int x2)] [] (V s)
  unfold fX11_element at hf
  refine e_aload_n 0 dX11_element_0 rfl rfl ?_
  refine e_iload_n 1 dX11_element_1 rfl rfl ?_
  refine e_iload_n 2 dX11_element_2 rfl rfl ?_
  obtain ⟨r1, hg, hf⟩ := bO_some hf
  refine e_callV (as := [.int x1, .int x2]) (v := (some (.int r1))) (s' := s) hV dX11_element_3 (Or.inl rfl) rfl rfl rfl rfl (Nat.le_of_ble_eq_true rfl) lx_X rfl rfl (fun Q hQ => tX11_refusal (d := d) hV  hg hQ) ?_
  refine e_if_eq 15 dX11_element_6 (by decide) hf (fun hf => ?_) (fun hf => ?_)
  · refine e_aload_n 0 dX11_element_15 rfl rfl ?_
    refine e_getr hV dX11_element_16 rfl lx_X rfl ?_
    refine e_bipush (w := (nI 60)) dX11_element_19 (by decide) ?_
    refine e_iload_n 1 dX11_element_21 rfl rfl ?_
    refine e_imul dX11_element_22 ?_
    refine e_iload_n 2 dX11_element_23 rfl rfl ?_
    refine e_iadd dX11_element_24 ?_
    refine e_lald hV dX11_element_25 lx_X_items hf (fun v2 hf => ?_)
    obtain rfl := Option.some.inj hf
    exact e_lret dX11_element_26 rfl hP
  · refine e_ldc2_w (w := (-9223372036854775808)) dX11_element_9 rfl ?_
    refine e_goto 26 dX11_element_12 (by decide) ?_
    obtain rfl := Option.some.inj hf
    exact e_lret dX11_element_26 rfl hP

theorem dX11_shift_0 : decode cX11_shift 0 = .ok (.iload_n 1, 1) := by decide +kernel
theorem dX11_shift_1 : decode cX11_shift 1 = .ok (.invokestatic 111, 3) := by decide +kernel
theorem dX11_shift_4 : decode cX11_shift 4 = .ok (.ifCond .eq 10, 3) := by decide +kernel
theorem dX11_shift_7 : decode cX11_shift 7 = .ok (.iload_n 3, 1) := by decide +kernel
theorem dX11_shift_8 : decode cX11_shift 8 = .ok (.invokestatic 111, 3) := by decide +kernel
theorem dX11_shift_11 : decode cX11_shift 11 = .ok (.ifCond .ne 5, 3) := by decide +kernel
theorem dX11_shift_14 : decode cX11_shift 14 = .ok (.iconst (-1), 1) := by decide +kernel
theorem dX11_shift_15 : decode cX11_shift 15 = .ok (.ireturn, 1) := by decide +kernel
theorem dX11_shift_16 : decode cX11_shift 16 = .ok (.aload_n 0, 1) := by decide +kernel
theorem dX11_shift_17 : decode cX11_shift 17 = .ok (.getfield 68, 3) := by decide +kernel
theorem dX11_shift_20 : decode cX11_shift 20 = .ok (.iload_n 1, 1) := by decide +kernel
theorem dX11_shift_21 : decode cX11_shift 21 = .ok (.iaload, 1) := by decide +kernel
theorem dX11_shift_22 : decode cX11_shift 22 = .ok (.ifCond .lt 12, 3) := by decide +kernel
theorem dX11_shift_25 : decode cX11_shift 25 = .ok (.aload_n 0, 1) := by decide +kernel
theorem dX11_shift_26 : decode cX11_shift 26 = .ok (.getfield 68, 3) := by decide +kernel
theorem dX11_shift_29 : decode cX11_shift 29 = .ok (.iload_n 3, 1) := by decide +kernel
theorem dX11_shift_30 : decode cX11_shift 30 = .ok (.iaload, 1) := by decide +kernel
theorem dX11_shift_31 : decode cX11_shift 31 = .ok (.ifCond .ge 6, 3) := by decide +kernel
theorem dX11_shift_34 : decode cX11_shift 34 = .ok (.bipush (-11), 2) := by decide +kernel
theorem dX11_shift_36 : decode cX11_shift 36 = .ok (.ireturn, 1) := by decide +kernel
theorem dX11_shift_37 : decode cX11_shift 37 = .ok (.aload_n 0, 1) := by decide +kernel
theorem dX11_shift_38 : decode cX11_shift 38 = .ok (.getfield 68, 3) := by decide +kernel
theorem dX11_shift_41 : decode cX11_shift 41 = .ok (.iload_n 1, 1) := by decide +kernel
theorem dX11_shift_42 : decode cX11_shift 42 = .ok (.iaload, 1) := by decide +kernel
theorem dX11_shift_43 : decode cX11_shift 43 = .ok (.bipush 50, 2) := by decide +kernel
theorem dX11_shift_45 : decode cX11_shift 45 = .ok (.if_icmp .lt 18, 3) := by decide +kernel
theorem dX11_shift_48 : decode cX11_shift 48 = .ok (.aload_n 0, 1) := by decide +kernel
theorem dX11_shift_49 : decode cX11_shift 49 = .ok (.getfield 68, 3) := by decide +kernel
theorem dX11_shift_52 : decode cX11_shift 52 = .ok (.iload_n 1, 1) := by decide +kernel
theorem dX11_shift_53 : decode cX11_shift 53 = .ok (.iaload, 1) := by decide +kernel
theorem dX11_shift_54 : decode cX11_shift 54 = .ok (.aload_n 0, 1) := by decide +kernel
theorem dX11_shift_55 : decode cX11_shift 55 = .ok (.getfield 68, 3) := by decide +kernel
theorem dX11_shift_58 : decode cX11_shift 58 = .ok (.iload_n 3, 1) := by decide +kernel
theorem dX11_shift_59 : decode cX11_shift 59 = .ok (.iaload, 1) := by decide +kernel
theorem dX11_shift_60 : decode cX11_shift 60 = .ok (.if_icmp .eq 6, 3) := by decide +kernel
theorem dX11_shift_63 : decode cX11_shift 63 = .ok (.bipush (-12), 2) := by decide +kernel
theorem dX11_shift_65 : decode cX11_shift 65 = .ok (.ireturn, 1) := by decide +kernel
theorem dX11_shift_66 : decode cX11_shift 66 = .ok (.iload 5, 2) := by decide +kernel
theorem dX11_shift_68 : decode cX11_shift 68 = .ok (.ifCond .lt 39, 3) := by decide +kernel
theorem dX11_shift_71 : decode cX11_shift 71 = .ok (.iload_n 2, 1) := by decide +kernel
theorem dX11_shift_72 : decode cX11_shift 72 = .ok (.ifCond .lt 35, 3) := by decide +kernel
theorem dX11_shift_75 : decode cX11_shift 75 = .ok (.iload 4, 2) := by decide +kernel
theorem dX11_shift_77 : decode cX11_shift 77 = .ok (.ifCond .lt 30, 3) := by decide +kernel
theorem dX11_shift_80 : decode cX11_shift 80 = .ok (.iload_n 2, 1) := by decide +kernel
theorem dX11_shift_81 : decode cX11_shift 81 = .ok (.aload_n 0, 1) := by decide +kernel
theorem dX11_shift_82 : decode cX11_shift 82 = .ok (.getfield 71, 3) := by decide +kernel
theorem dX11_shift_85 : decode cX11_shift 85 = .ok (.iload_n 1, 1) := by decide +kernel
theorem dX11_shift_86 : decode cX11_shift 86 = .ok (.iaload, 1) := by decide +kernel
theorem dX11_shift_87 : decode cX11_shift 87 = .ok (.iload 5, 2) := by decide +kernel
theorem dX11_shift_89 : decode cX11_shift 89 = .ok (.isub, 1) := by decide +kernel
theorem dX11_shift_90 : decode cX11_shift 90 = .ok (.if_icmp .gt 17, 3) := by decide +kernel
theorem dX11_shift_93 : decode cX11_shift 93 = .ok (.iload 4, 2) := by decide +kernel
theorem dX11_shift_95 : decode cX11_shift 95 = .ok (.aload_n 0, 1) := by decide +kernel
theorem dX11_shift_96 : decode cX11_shift 96 = .ok (.getfield 71, 3) := by decide +kernel
theorem dX11_shift_99 : decode cX11_shift 99 = .ok (.iload_n 3, 1) := by decide +kernel
theorem dX11_shift_100 : decode cX11_shift 100 = .ok (.iaload, 1) := by decide +kernel
theorem dX11_shift_101 : decode cX11_shift 101 = .ok (.iload 5, 2) := by decide +kernel
theorem dX11_shift_103 : decode cX11_shift 103 = .ok (.isub, 1) := by decide +kernel
theorem dX11_shift_104 : decode cX11_shift 104 = .ok (.if_icmp .le 6, 3) := by decide +kernel
theorem dX11_shift_107 : decode cX11_shift 107 = .ok (.bipush (-13), 2) := by decide +kernel
theorem dX11_shift_109 : decode cX11_shift 109 = .ok (.ireturn, 1) := by decide +kernel
theorem dX11_shift_110 : decode cX11_shift 110 = .ok (.iconst 0, 1) := by decide +kernel
theorem dX11_shift_111 : decode cX11_shift 111 = .ok (.istore 6, 2) := by decide +kernel
theorem dX11_shift_113 : decode cX11_shift 113 = .ok (.iload 6, 2) := by decide +kernel
theorem dX11_shift_115 : decode cX11_shift 115 = .ok (.iload 5, 2) := by decide +kernel
theorem dX11_shift_117 : decode cX11_shift 117 = .ok (.if_icmp .ge 30, 3) := by decide +kernel
theorem dX11_shift_120 : decode cX11_shift 120 = .ok (.aload_n 0, 1) := by decide +kernel
theorem dX11_shift_121 : decode cX11_shift 121 = .ok (.getfield 78, 3) := by decide +kernel
theorem dX11_shift_124 : decode cX11_shift 124 = .ok (.iload 6, 2) := by decide +kernel
theorem dX11_shift_126 : decode cX11_shift 126 = .ok (.aload_n 0, 1) := by decide +kernel
theorem dX11_shift_127 : decode cX11_shift 127 = .ok (.getfield 74, 3) := by decide +kernel
theorem dX11_shift_130 : decode cX11_shift 130 = .ok (.bipush 60, 2) := by decide +kernel
theorem dX11_shift_132 : decode cX11_shift 132 = .ok (.iload_n 1, 1) := by decide +kernel
theorem dX11_shift_133 : decode cX11_shift 133 = .ok (.imul, 1) := by decide +kernel
theorem dX11_shift_134 : decode cX11_shift 134 = .ok (.iload_n 2, 1) := by decide +kernel
theorem dX11_shift_135 : decode cX11_shift 135 = .ok (.iadd, 1) := by decide +kernel
theorem dX11_shift_136 : decode cX11_shift 136 = .ok (.iload 6, 2) := by decide +kernel
theorem dX11_shift_138 : decode cX11_shift 138 = .ok (.iadd, 1) := by decide +kernel
theorem dX11_shift_139 : decode cX11_shift 139 = .ok (.laload, 1) := by decide +kernel
theorem dX11_shift_140 : decode cX11_shift 140 = .ok (.lastore, 1) := by decide +kernel
theorem dX11_shift_141 : decode cX11_shift 141 = .ok (.iinc 6 1, 3) := by decide +kernel
theorem dX11_shift_144 : decode cX11_shift 144 = .ok (.goto (-31), 3) := by decide +kernel
theorem dX11_shift_147 : decode cX11_shift 147 = .ok (.iconst 0, 1) := by decide +kernel
theorem dX11_shift_148 : decode cX11_shift 148 = .ok (.istore 6, 2) := by decide +kernel
theorem dX11_shift_150 : decode cX11_shift 150 = .ok (.iload 6, 2) := by decide +kernel
theorem dX11_shift_152 : decode cX11_shift 152 = .ok (.iload 5, 2) := by decide +kernel
theorem dX11_shift_154 : decode cX11_shift 154 = .ok (.if_icmp .ge 31, 3) := by decide +kernel
theorem dX11_shift_157 : decode cX11_shift 157 = .ok (.aload_n 0, 1) := by decide +kernel
theorem dX11_shift_158 : decode cX11_shift 158 = .ok (.getfield 74, 3) := by decide +kernel
theorem dX11_shift_161 : decode cX11_shift 161 = .ok (.bipush 60, 2) := by decide +kernel
theorem dX11_shift_163 : decode cX11_shift 163 = .ok (.iload_n 3, 1) := by decide +kernel
theorem dX11_shift_164 : decode cX11_shift 164 = .ok (.imul, 1) := by decide +kernel
theorem dX11_shift_165 : decode cX11_shift 165 = .ok (.iload 4, 2) := by decide +kernel
theorem dX11_shift_167 : decode cX11_shift 167 = .ok (.iadd, 1) := by decide +kernel
theorem dX11_shift_168 : decode cX11_shift 168 = .ok (.iload 6, 2) := by decide +kernel
theorem dX11_shift_170 : decode cX11_shift 170 = .ok (.iadd, 1) := by decide +kernel
theorem dX11_shift_171 : decode cX11_shift 171 = .ok (.aload_n 0, 1) := by decide +kernel
theorem dX11_shift_172 : decode cX11_shift 172 = .ok (.getfield 78, 3) := by decide +kernel
theorem dX11_shift_175 : decode cX11_shift 175 = .ok (.iload 6, 2) := by decide +kernel
theorem dX11_shift_177 : decode cX11_shift 177 = .ok (.laload, 1) := by decide +kernel
theorem dX11_shift_178 : decode cX11_shift 178 = .ok (.lastore, 1) := by decide +kernel
theorem dX11_shift_179 : decode cX11_shift 179 = .ok (.iinc 6 1, 3) := by decide +kernel
theorem dX11_shift_182 : decode cX11_shift 182 = .ok (.goto (-32), 3) := by decide +kernel
theorem dX11_shift_185 : decode cX11_shift 185 = .ok (.iload 5, 2) := by decide +kernel
theorem dX11_shift_187 : decode cX11_shift 187 = .ok (.ireturn, 1) := by decide +kernel
def fX11_shift_b150 : Nat → Int32 → Int32 → Int32 → Int32 → mS → Option (Int32 × mS)
  | 0, _, _, _, _, _ => none
  | k + 1, y3, y4, y5, y6, s =>
    if y5 ≤ y6 then
      some (y5, s)
    else
      ldL s lX_carried 60 y6 fun v12 =>
      stL s lX_items 360 ((((nI 60) * y3) + y4) + y6) v12 fun s13 =>
      bnd (y6 + (nI 1)) fun v14 =>
      fX11_shift_b150 k y3 y4 y5 v14 s13

def fX11_shift_b113 : Nat → Int32 → Int32 → Int32 → Int32 → Int32 → Int32 → mS → Option (Int32 × mS)
  | 0, _, _, _, _, _, _, _ => none
  | k + 1, y1, y2, y3, y4, y5, y6, s =>
    if y5 ≤ y6 then
      bnd (nI 0) fun v11 =>
      fX11_shift_b150 mFu y3 y4 y5 v11 s
    else
      ldL s lX_items 360 ((((nI 60) * y1) + y2) + y6) fun v15 =>
      stL s lX_carried 60 y6 v15 fun s16 =>
      bnd (y6 + (nI 1)) fun v17 =>
      fX11_shift_b113 k y1 y2 y3 y4 y5 v17 s16

def fX11_shift (x1 : Int32) (x2 : Int32) (x3 : Int32) (x4 : Int32) (x5 : Int32) (s : mS) : Option (Int32 × mS) :=
  bO (fX11_isShelf x1 s) fun r1 =>
  if r1 = 0 then
    some ((-1), s)
  else
    bO (fX11_isShelf x3 s) fun r2 =>
    if r2 = 0 then
      some ((-1), s)
    else
      ldA s aX_shelf 6 x1 fun v3 =>
      if v3 < 0 then
        some ((-11), s)
      else
        ldA s aX_shelf 6 x3 fun v4 =>
        if 0 ≤ v4 then
          ldA s aX_shelf 6 x1 fun v5 =>
          if v5 < (nI 50) then
            some ((-12), s)
          else
            ldA s aX_shelf 6 x1 fun v6 =>
            ldA s aX_shelf 6 x3 fun v7 =>
            if v6 = v7 then
              if x5 < 0 then
                some ((-13), s)
              else
                if x2 < 0 then
                  some ((-13), s)
                else
                  if x4 < 0 then
                    some ((-13), s)
                  else
                    ldA s aX_many 6 x1 fun v8 =>
                    if (v8 - x5) < x2 then
                      some ((-13), s)
                    else
                      ldA s aX_many 6 x3 fun v9 =>
                      if x4 ≤ (v9 - x5) then
                        bnd (nI 0) fun v10 =>
                        fX11_shift_b113 mFu x1 x2 x3 x4 x5 v10 s
                      else
                        some ((-13), s)
            else
              some ((-12), s)
        else
          some ((-11), s)

set_option maxRecDepth 20000 in
theorem wX11_shift_b150 {ρ : mRo} {d : Nat} {P : mPo} {V : mS → List mE} (hV : mView LX V)  {res : (Int32 × mS)} (hP : P (some (.int res.1)) (V res.2)) : ∀ (k : Nat) (y3 : Int32) (y4 : Int32) (y5 : Int32) (y6 : Int32) (s : mS), fX11_shift_b150 k y3 y4 y5 y6 s = some res → mG ρ (mC ρ (d + 2)) 11 7 cX11_shift (some .int) P 150 [(0, .ref qX), (3, .int y3), (4, .int y4), (5, .int y5), (6, .int y6)] [] (V s) := by
  intro k
  induction k with
  | zero => intro y3 y4 y5 y6 s hf; rw [fX11_shift_b150] at hf; cases hf
  | succ k ih =>
    intro y3 y4 y5 y6 s hf
    rw [fX11_shift_b150] at hf
    refine e_iload 4 dX11_shift_150 rfl ?_
    refine e_iload 3 dX11_shift_152 rfl ?_
    refine e_icmp_ge 185 dX11_shift_154 (by decide) hf (fun hf => ?_) (fun hf => ?_)
    · refine e_iload 3 dX11_shift_185 rfl ?_
      obtain rfl := Option.some.inj hf
      exact e_iret dX11_shift_187 trivial hP
    · refine e_aload_n 0 dX11_shift_157 rfl rfl ?_
      refine e_getr hV dX11_shift_158 rfl lx_X rfl ?_
      refine e_bipush (w := (nI 60)) dX11_shift_161 (by decide) ?_
      refine e_iload_n 1 dX11_shift_163 rfl rfl ?_
      refine e_imul dX11_shift_164 ?_
      refine e_iload 2 dX11_shift_165 rfl ?_
      refine e_iadd dX11_shift_167 ?_
      refine e_iload 4 dX11_shift_168 rfl ?_
      refine e_iadd dX11_shift_170 ?_
      refine e_aload_n 0 dX11_shift_171 rfl rfl ?_
      refine e_getr hV dX11_shift_172 rfl lx_X rfl ?_
      refine e_iload 4 dX11_shift_175 rfl ?_
      refine e_lald hV dX11_shift_177 lx_X_carried hf (fun v12 hf => ?_)
      refine e_last hV dX11_shift_178 lx_X_items hf (fun s13 hf => ?_)
      refine e_iinc 4 dX11_shift_179 (by decide) rfl hf (fun v14 hf => ?_)
      refine e_goto 150 dX11_shift_182 (by decide) ?_
      refine e_pick [1, 2, 3, 4, 0] rfl ?_
      exact ih y3 y4 y5 v14 s13 hf
set_option maxRecDepth 20000 in
theorem wX11_shift_b113 {ρ : mRo} {d : Nat} {P : mPo} {V : mS → List mE} (hV : mView LX V)  {res : (Int32 × mS)} (hP : P (some (.int res.1)) (V res.2)) : ∀ (k : Nat) (y1 : Int32) (y2 : Int32) (y3 : Int32) (y4 : Int32) (y5 : Int32) (y6 : Int32) (s : mS), fX11_shift_b113 k y1 y2 y3 y4 y5 y6 s = some res → mG ρ (mC ρ (d + 2)) 11 7 cX11_shift (some .int) P 113 [(0, .ref qX), (1, .int y1), (2, .int y2), (3, .int y3), (4, .int y4), (5, .int y5), (6, .int y6)] [] (V s) := by
  intro k
  induction k with
  | zero => intro y1 y2 y3 y4 y5 y6 s hf; rw [fX11_shift_b113] at hf; cases hf
  | succ k ih =>
    intro y1 y2 y3 y4 y5 y6 s hf
    rw [fX11_shift_b113] at hf
    refine e_iload 6 dX11_shift_113 rfl ?_
    refine e_iload 5 dX11_shift_115 rfl ?_
    refine e_icmp_ge 147 dX11_shift_117 (by decide) hf (fun hf => ?_) (fun hf => ?_)
    · refine e_iconst (w := (nI 0)) dX11_shift_147 (by decide) ?_
      refine e_istore dX11_shift_148 (by decide) hf (fun v11 hf => ?_)
      refine e_pick [1, 4, 5, 6, 0] rfl ?_
      exact wX11_shift_b150 hV hP mFu y3 y4 y5 v11 s hf
    · refine e_aload_n 0 dX11_shift_120 rfl rfl ?_
      refine e_getr hV dX11_shift_121 rfl lx_X rfl ?_
      refine e_iload 6 dX11_shift_124 rfl ?_
      refine e_aload_n 0 dX11_shift_126 rfl rfl ?_
      refine e_getr hV dX11_shift_127 rfl lx_X rfl ?_
      refine e_bipush (w := (nI 60)) dX11_shift_130 (by decide) ?_
      refine e_iload_n 1 dX11_shift_132 rfl rfl ?_
      refine e_imul dX11_shift_133 ?_
      refine e_iload_n 2 dX11_shift_134 rfl rfl ?_
      refine e_iadd dX11_shift_135 ?_
      refine e_iload 6 dX11_shift_136 rfl ?_
      refine e_iadd dX11_shift_138 ?_
      refine e_lald hV dX11_shift_139 lx_X_items hf (fun v15 hf => ?_)
      refine e_last hV dX11_shift_140 lx_X_carried hf (fun s16 hf => ?_)
      refine e_iinc 6 dX11_shift_141 (by decide) rfl hf (fun v17 hf => ?_)
      refine e_goto 113 dX11_shift_144 (by decide) ?_
      refine e_pick [1, 2, 3, 4, 5, 6, 0] rfl ?_
      exact ih y1 y2 y3 y4 y5 v17 s16 hf
set_option maxRecDepth 20000 in
theorem tX11_shift {ρ : mRo} {d : Nat} {P : mPo} {V : mS → List mE} (hV : mView LX V)  {x1 : Int32} {x2 : Int32} {x3 : Int32} {x4 : Int32} {x5 : Int32} {s : mS} {res : (Int32 × mS)} (hf : fX11_shift x1 x2 x3 x4 x5 s = some res) (hP : P (some (.int res.1)) (V res.2)) : mC ρ (d + 3) 229 [.ref qX, .int x1, .int x2, .int x3, .int x4, .int x5] (V s) P := by
  refine ⟨_, rfl, Nat.le_of_ble_eq_true rfl, by decide, ?_⟩
  show mG ρ (mC ρ (d + 2)) 11 7 cX11_shift (some .int) P 0 [(0, .ref qX), (1, .int x1), (2, .int x2), (3, .int x3), (4, .int x4), (5, .int x5)] [] (V s)
  unfold fX11_shift at hf
  refine e_iload_n 1 dX11_shift_0 rfl rfl ?_
  obtain ⟨r1, hg, hf⟩ := bO_some hf
  refine e_callS (as := [.int x1]) (v := (some (.int r1))) (s' := s) dX11_shift_1 rfl rfl rfl rfl rfl (Nat.le_of_ble_eq_true rfl) (fun Q hQ => tX11_isShelf (d := d) hV  hg hQ) ?_
  refine e_if_eq 14 dX11_shift_4 (by decide) hf (fun hf => ?_) (fun hf => ?_)
  · refine e_iconst (w := (-1)) dX11_shift_14 (by decide) ?_
    obtain rfl := Option.some.inj hf
    exact e_iret dX11_shift_15 trivial hP
  · refine e_iload_n 3 dX11_shift_7 rfl rfl ?_
    obtain ⟨r2, hg, hf⟩ := bO_some hf
    refine e_callS (as := [.int x3]) (v := (some (.int r2))) (s' := s) dX11_shift_8 rfl rfl rfl rfl rfl (Nat.le_of_ble_eq_true rfl) (fun Q hQ => tX11_isShelf (d := d) hV  hg hQ) ?_
    refine e_if_ne 16 dX11_shift_11 (by decide) hf (fun hf => ?_) (fun hf => ?_)
    · refine e_aload_n 0 dX11_shift_16 rfl rfl ?_
      refine e_getr hV dX11_shift_17 rfl lx_X rfl ?_
      refine e_iload_n 1 dX11_shift_20 rfl rfl ?_
      refine e_iald hV dX11_shift_21 lx_X_shelf hf (fun v3 hf => ?_)
      refine e_if_lt 34 dX11_shift_22 (by decide) hf (fun hf => ?_) (fun hf => ?_)
      · refine e_bipush (w := (-11)) dX11_shift_34 (by decide) ?_
        obtain rfl := Option.some.inj hf
        exact e_iret dX11_shift_36 trivial hP
      · refine e_aload_n 0 dX11_shift_25 rfl rfl ?_
        refine e_getr hV dX11_shift_26 rfl lx_X rfl ?_
        refine e_iload_n 3 dX11_shift_29 rfl rfl ?_
        refine e_iald hV dX11_shift_30 lx_X_shelf hf (fun v4 hf => ?_)
        refine e_if_ge 37 dX11_shift_31 (by decide) hf (fun hf => ?_) (fun hf => ?_)
        · refine e_aload_n 0 dX11_shift_37 rfl rfl ?_
          refine e_getr hV dX11_shift_38 rfl lx_X rfl ?_
          refine e_iload_n 1 dX11_shift_41 rfl rfl ?_
          refine e_iald hV dX11_shift_42 lx_X_shelf hf (fun v5 hf => ?_)
          refine e_bipush (w := (nI 50)) dX11_shift_43 (by decide) ?_
          refine e_icmp_lt 63 dX11_shift_45 (by decide) hf (fun hf => ?_) (fun hf => ?_)
          · refine e_bipush (w := (-12)) dX11_shift_63 (by decide) ?_
            obtain rfl := Option.some.inj hf
            exact e_iret dX11_shift_65 trivial hP
          · refine e_aload_n 0 dX11_shift_48 rfl rfl ?_
            refine e_getr hV dX11_shift_49 rfl lx_X rfl ?_
            refine e_iload_n 1 dX11_shift_52 rfl rfl ?_
            refine e_iald hV dX11_shift_53 lx_X_shelf hf (fun v6 hf => ?_)
            refine e_aload_n 0 dX11_shift_54 rfl rfl ?_
            refine e_getr hV dX11_shift_55 rfl lx_X rfl ?_
            refine e_iload_n 3 dX11_shift_58 rfl rfl ?_
            refine e_iald hV dX11_shift_59 lx_X_shelf hf (fun v7 hf => ?_)
            refine e_icmp_eq 66 dX11_shift_60 (by decide) hf (fun hf => ?_) (fun hf => ?_)
            · refine e_iload 5 dX11_shift_66 rfl ?_
              refine e_if_lt 107 dX11_shift_68 (by decide) hf (fun hf => ?_) (fun hf => ?_)
              · refine e_bipush (w := (-13)) dX11_shift_107 (by decide) ?_
                obtain rfl := Option.some.inj hf
                exact e_iret dX11_shift_109 trivial hP
              · refine e_iload_n 2 dX11_shift_71 rfl rfl ?_
                refine e_if_lt 107 dX11_shift_72 (by decide) hf (fun hf => ?_) (fun hf => ?_)
                · refine e_bipush (w := (-13)) dX11_shift_107 (by decide) ?_
                  obtain rfl := Option.some.inj hf
                  exact e_iret dX11_shift_109 trivial hP
                · refine e_iload 4 dX11_shift_75 rfl ?_
                  refine e_if_lt 107 dX11_shift_77 (by decide) hf (fun hf => ?_) (fun hf => ?_)
                  · refine e_bipush (w := (-13)) dX11_shift_107 (by decide) ?_
                    obtain rfl := Option.some.inj hf
                    exact e_iret dX11_shift_109 trivial hP
                  · refine e_iload_n 2 dX11_shift_80 rfl rfl ?_
                    refine e_aload_n 0 dX11_shift_81 rfl rfl ?_
                    refine e_getr hV dX11_shift_82 rfl lx_X rfl ?_
                    refine e_iload_n 1 dX11_shift_85 rfl rfl ?_
                    refine e_iald hV dX11_shift_86 lx_X_many hf (fun v8 hf => ?_)
                    refine e_iload 5 dX11_shift_87 rfl ?_
                    refine e_isub dX11_shift_89 ?_
                    refine e_icmp_gt 107 dX11_shift_90 (by decide) hf (fun hf => ?_) (fun hf => ?_)
                    · refine e_bipush (w := (-13)) dX11_shift_107 (by decide) ?_
                      obtain rfl := Option.some.inj hf
                      exact e_iret dX11_shift_109 trivial hP
                    · refine e_iload 4 dX11_shift_93 rfl ?_
                      refine e_aload_n 0 dX11_shift_95 rfl rfl ?_
                      refine e_getr hV dX11_shift_96 rfl lx_X rfl ?_
                      refine e_iload_n 3 dX11_shift_99 rfl rfl ?_
                      refine e_iald hV dX11_shift_100 lx_X_many hf (fun v9 hf => ?_)
                      refine e_iload 5 dX11_shift_101 rfl ?_
                      refine e_isub dX11_shift_103 ?_
                      refine e_icmp_le 110 dX11_shift_104 (by decide) hf (fun hf => ?_) (fun hf => ?_)
                      · refine e_iconst (w := (nI 0)) dX11_shift_110 (by decide) ?_
                        refine e_istore dX11_shift_111 (by decide) hf (fun v10 hf => ?_)
                        refine e_pick [1, 2, 3, 4, 5, 6, 0] rfl ?_
                        exact wX11_shift_b113 hV hP mFu x1 x2 x3 x4 x5 v10 s hf
                      · refine e_bipush (w := (-13)) dX11_shift_107 (by decide) ?_
                        obtain rfl := Option.some.inj hf
                        exact e_iret dX11_shift_109 trivial hP
            · refine e_bipush (w := (-12)) dX11_shift_63 (by decide) ?_
              obtain rfl := Option.some.inj hf
              exact e_iret dX11_shift_65 trivial hP
        · refine e_bipush (w := (-11)) dX11_shift_34 (by decide) ?_
          obtain rfl := Option.some.inj hf
          exact e_iret dX11_shift_36 trivial hP
    · refine e_iconst (w := (-1)) dX11_shift_14 (by decide) ?_
      obtain rfl := Option.some.inj hf
      exact e_iret dX11_shift_15 trivial hP

theorem dX11_taken_0 : decode cX11_taken 0 = .ok (.iload_n 1, 1) := by decide +kernel
theorem dX11_taken_1 : decode cX11_taken 1 = .ok (.invokestatic 111, 3) := by decide +kernel
theorem dX11_taken_4 : decode cX11_taken 4 = .ok (.ifCond .eq 15, 3) := by decide +kernel
theorem dX11_taken_7 : decode cX11_taken 7 = .ok (.iload_n 2, 1) := by decide +kernel
theorem dX11_taken_8 : decode cX11_taken 8 = .ok (.i2l, 1) := by decide +kernel
theorem dX11_taken_9 : decode cX11_taken 9 = .ok (.lconst 0, 1) := by decide +kernel
theorem dX11_taken_10 : decode cX11_taken 10 = .ok (.ldc2_w 285, 3) := by decide +kernel
theorem dX11_taken_13 : decode cX11_taken 13 = .ok (.invokestatic 93, 3) := by decide +kernel
theorem dX11_taken_16 : decode cX11_taken 16 = .ok (.ifCond .ne 5, 3) := by decide +kernel
theorem dX11_taken_19 : decode cX11_taken 19 = .ok (.iconst (-1), 1) := by decide +kernel
theorem dX11_taken_20 : decode cX11_taken 20 = .ok (.ireturn, 1) := by decide +kernel
theorem dX11_taken_21 : decode cX11_taken 21 = .ok (.aload_n 0, 1) := by decide +kernel
theorem dX11_taken_22 : decode cX11_taken 22 = .ok (.getfield 68, 3) := by decide +kernel
theorem dX11_taken_25 : decode cX11_taken 25 = .ok (.iload_n 1, 1) := by decide +kernel
theorem dX11_taken_26 : decode cX11_taken 26 = .ok (.iaload, 1) := by decide +kernel
theorem dX11_taken_27 : decode cX11_taken 27 = .ok (.ifCond .ge 6, 3) := by decide +kernel
theorem dX11_taken_30 : decode cX11_taken 30 = .ok (.bipush (-11), 2) := by decide +kernel
theorem dX11_taken_32 : decode cX11_taken 32 = .ok (.ireturn, 1) := by decide +kernel
theorem dX11_taken_33 : decode cX11_taken 33 = .ok (.aload_n 0, 1) := by decide +kernel
theorem dX11_taken_34 : decode cX11_taken 34 = .ok (.getfield 68, 3) := by decide +kernel
theorem dX11_taken_37 : decode cX11_taken 37 = .ok (.iload_n 1, 1) := by decide +kernel
theorem dX11_taken_38 : decode cX11_taken 38 = .ok (.iaload, 1) := by decide +kernel
theorem dX11_taken_39 : decode cX11_taken 39 = .ok (.bipush 50, 2) := by decide +kernel
theorem dX11_taken_41 : decode cX11_taken 41 = .ok (.if_icmp .lt 6, 3) := by decide +kernel
theorem dX11_taken_44 : decode cX11_taken 44 = .ok (.bipush (-12), 2) := by decide +kernel
theorem dX11_taken_46 : decode cX11_taken 46 = .ok (.ireturn, 1) := by decide +kernel
theorem dX11_taken_47 : decode cX11_taken 47 = .ok (.aload_n 0, 1) := by decide +kernel
theorem dX11_taken_48 : decode cX11_taken 48 = .ok (.aload_n 0, 1) := by decide +kernel
theorem dX11_taken_49 : decode cX11_taken 49 = .ok (.getfield 68, 3) := by decide +kernel
theorem dX11_taken_52 : decode cX11_taken 52 = .ok (.iload_n 1, 1) := by decide +kernel
theorem dX11_taken_53 : decode cX11_taken 53 = .ok (.iaload, 1) := by decide +kernel
theorem dX11_taken_54 : decode cX11_taken 54 = .ok (.invokevirtual 328, 3) := by decide +kernel
theorem dX11_taken_57 : decode cX11_taken 57 = .ok (.istore_n 3, 1) := by decide +kernel
theorem dX11_taken_58 : decode cX11_taken 58 = .ok (.iload_n 3, 1) := by decide +kernel
theorem dX11_taken_59 : decode cX11_taken 59 = .ok (.iload_n 2, 1) := by decide +kernel
theorem dX11_taken_60 : decode cX11_taken 60 = .ok (.if_icmp .eq 15, 3) := by decide +kernel
theorem dX11_taken_63 : decode cX11_taken 63 = .ok (.iload_n 3, 1) := by decide +kernel
theorem dX11_taken_64 : decode cX11_taken 64 = .ok (.ifCond .le 11, 3) := by decide +kernel
theorem dX11_taken_67 : decode cX11_taken 67 = .ok (.iload_n 3, 1) := by decide +kernel
theorem dX11_taken_68 : decode cX11_taken 68 = .ok (.invokestatic 331, 3) := by decide +kernel
theorem dX11_taken_71 : decode cX11_taken 71 = .ok (.istore_n 3, 1) := by decide +kernel
theorem dX11_taken_72 : decode cX11_taken 72 = .ok (.goto (-14), 3) := by decide +kernel
theorem dX11_taken_75 : decode cX11_taken 75 = .ok (.iload_n 3, 1) := by decide +kernel
theorem dX11_taken_76 : decode cX11_taken 76 = .ok (.iload_n 2, 1) := by decide +kernel
theorem dX11_taken_77 : decode cX11_taken 77 = .ok (.if_icmp .ne 16, 3) := by decide +kernel
theorem dX11_taken_80 : decode cX11_taken 80 = .ok (.aload_n 0, 1) := by decide +kernel
theorem dX11_taken_81 : decode cX11_taken 81 = .ok (.aload_n 0, 1) := by decide +kernel
theorem dX11_taken_82 : decode cX11_taken 82 = .ok (.getfield 68, 3) := by decide +kernel
theorem dX11_taken_85 : decode cX11_taken 85 = .ok (.iload_n 1, 1) := by decide +kernel
theorem dX11_taken_86 : decode cX11_taken 86 = .ok (.iaload, 1) := by decide +kernel
theorem dX11_taken_87 : decode cX11_taken 87 = .ok (.invokevirtual 328, 3) := by decide +kernel
theorem dX11_taken_90 : decode cX11_taken 90 = .ok (.goto 5, 3) := by decide +kernel
theorem dX11_taken_93 : decode cX11_taken 93 = .ok (.bipush (-12), 2) := by decide +kernel
theorem dX11_taken_95 : decode cX11_taken 95 = .ok (.ireturn, 1) := by decide +kernel
def fX11_taken_b75 (y1 : Int32) (y2 : Int32) (y3 : Int32) (s : mS) : Option Int32 :=
  if y3 = y2 then
    ldA s aX_shelf 6 y1 fun v8 =>
    bO (fX11_kindOf v8 s) fun r9 =>
    some r9
  else
    some (-12)

def fX11_taken_b58 : Nat → Int32 → Int32 → Int32 → mS → Option Int32
  | 0, _, _, _, _ => none
  | k + 1, y1, y2, y3, s =>
    if y3 = y2 then
      fX11_taken_b75 y1 y2 y3 s
    else
      if y3 ≤ 0 then
        fX11_taken_b75 y1 y2 y3 s
      else
        bO (fX11_above y3 s) fun r10 =>
        bnd r10 fun v11 =>
        fX11_taken_b58 k y1 y2 v11 s

def fX11_taken (x1 : Int32) (x2 : Int32) (s : mS) : Option Int32 :=
  bO (fX11_isShelf x1 s) fun r1 =>
  if r1 = 0 then
    some (-1)
  else
    bO (fX11_within (Int32.toInt64 x2) 0 7 s) fun r2 =>
    if r2 = 0 then
      some (-1)
    else
      ldA s aX_shelf 6 x1 fun v3 =>
      if 0 ≤ v3 then
        ldA s aX_shelf 6 x1 fun v4 =>
        if v4 < (nI 50) then
          ldA s aX_shelf 6 x1 fun v5 =>
          bO (fX11_kindOf v5 s) fun r6 =>
          bnd r6 fun v7 =>
          fX11_taken_b58 mFu x1 x2 v7 s
        else
          some (-12)
      else
        some (-11)

set_option maxRecDepth 20000 in
theorem wX11_taken_b75 {ρ : mRo} {d : Nat} {P : mPo} {V : mS → List mE} (hV : mView LX V)  {res : Int32} {s : mS} (hP : P (some (.int res)) (V s)) (y1 : Int32) (y2 : Int32) (y3 : Int32) (hf : fX11_taken_b75 y1 y2 y3 s = some res) : mG ρ (mC ρ (d + 2)) 11 4 cX11_taken (some .int) P 75 [(0, .ref qX), (1, .int y1), (2, .int y2), (3, .int y3)] [] (V s) := by
  unfold fX11_taken_b75 at hf
  refine e_iload_n 3 dX11_taken_75 rfl rfl ?_
  refine e_iload_n 2 dX11_taken_76 rfl rfl ?_
  refine e_icmp_ne 93 dX11_taken_77 (by decide) hf (fun hf => ?_) (fun hf => ?_)
  · refine e_bipush (w := (-12)) dX11_taken_93 (by decide) ?_
    obtain rfl := Option.some.inj hf
    exact e_iret dX11_taken_95 trivial hP
  · refine e_aload_n 0 dX11_taken_80 rfl rfl ?_
    refine e_aload_n 0 dX11_taken_81 rfl rfl ?_
    refine e_getr hV dX11_taken_82 rfl lx_X rfl ?_
    refine e_iload_n 1 dX11_taken_85 rfl rfl ?_
    refine e_iald hV dX11_taken_86 lx_X_shelf hf (fun v8 hf => ?_)
    obtain ⟨r9, hg, hf⟩ := bO_some hf
    refine e_callV (as := [.int v8]) (v := (some (.int r9))) (s' := s) hV dX11_taken_87 (Or.inl rfl) rfl rfl rfl rfl (Nat.le_of_ble_eq_true rfl) lx_X rfl rfl (fun Q hQ => tX11_kindOf (d := (d + 1)) hV  hg hQ) ?_
    refine e_goto 95 dX11_taken_90 (by decide) ?_
    obtain rfl := Option.some.inj hf
    exact e_iret dX11_taken_95 trivial hP
set_option maxRecDepth 20000 in
theorem wX11_taken_b58 {ρ : mRo} {d : Nat} {P : mPo} {V : mS → List mE} (hV : mView LX V)  {res : Int32} {s : mS} (hP : P (some (.int res)) (V s)) : ∀ (k : Nat) (y1 : Int32) (y2 : Int32) (y3 : Int32), fX11_taken_b58 k y1 y2 y3 s = some res → mG ρ (mC ρ (d + 2)) 11 4 cX11_taken (some .int) P 58 [(0, .ref qX), (1, .int y1), (2, .int y2), (3, .int y3)] [] (V s) := by
  intro k
  induction k with
  | zero => intro y1 y2 y3 hf; rw [fX11_taken_b58] at hf; cases hf
  | succ k ih =>
    intro y1 y2 y3 hf
    rw [fX11_taken_b58] at hf
    refine e_iload_n 3 dX11_taken_58 rfl rfl ?_
    refine e_iload_n 2 dX11_taken_59 rfl rfl ?_
    refine e_icmp_eq 75 dX11_taken_60 (by decide) hf (fun hf => ?_) (fun hf => ?_)
    · refine e_pick [0, 1, 2, 3] rfl ?_
      exact wX11_taken_b75 hV hP y1 y2 y3 hf
    · refine e_iload_n 3 dX11_taken_63 rfl rfl ?_
      refine e_if_le 75 dX11_taken_64 (by decide) hf (fun hf => ?_) (fun hf => ?_)
      · refine e_pick [0, 1, 2, 3] rfl ?_
        exact wX11_taken_b75 hV hP y1 y2 y3 hf
      · refine e_iload_n 3 dX11_taken_67 rfl rfl ?_
        obtain ⟨r10, hg, hf⟩ := bO_some hf
        refine e_callS (as := [.int y3]) (v := (some (.int r10))) (s' := s) dX11_taken_68 rfl rfl rfl rfl rfl (Nat.le_of_ble_eq_true rfl) (fun Q hQ => tX11_above (d := (d + 1)) hV  hg hQ) ?_
        refine e_istore_n dX11_taken_71 rfl (by decide) hf (fun v11 hf => ?_)
        refine e_goto 58 dX11_taken_72 (by decide) ?_
        refine e_pick [1, 2, 3, 0] rfl ?_
        exact ih y1 y2 v11 hf
set_option maxRecDepth 20000 in
theorem tX11_taken {ρ : mRo} {d : Nat} {P : mPo} {V : mS → List mE} (hV : mView LX V)  {x1 : Int32} {x2 : Int32} {s : mS} {res : Int32} (hf : fX11_taken x1 x2 s = some res) (hP : P (some (.int res)) (V s)) : mC ρ (d + 3) 230 [.ref qX, .int x1, .int x2] (V s) P := by
  refine ⟨_, rfl, Nat.le_of_ble_eq_true rfl, by decide, ?_⟩
  show mG ρ (mC ρ (d + 2)) 11 4 cX11_taken (some .int) P 0 [(0, .ref qX), (1, .int x1), (2, .int x2)] [] (V s)
  unfold fX11_taken at hf
  refine e_iload_n 1 dX11_taken_0 rfl rfl ?_
  obtain ⟨r1, hg, hf⟩ := bO_some hf
  refine e_callS (as := [.int x1]) (v := (some (.int r1))) (s' := s) dX11_taken_1 rfl rfl rfl rfl rfl (Nat.le_of_ble_eq_true rfl) (fun Q hQ => tX11_isShelf (d := d) hV  hg hQ) ?_
  refine e_if_eq 19 dX11_taken_4 (by decide) hf (fun hf => ?_) (fun hf => ?_)
  · refine e_iconst (w := (-1)) dX11_taken_19 (by decide) ?_
    obtain rfl := Option.some.inj hf
    exact e_iret dX11_taken_20 trivial hP
  · refine e_iload_n 2 dX11_taken_7 rfl rfl ?_
    refine e_i2l dX11_taken_8 ?_
    refine e_lconst (w := 0) dX11_taken_9 (by decide) ?_
    refine e_ldc2_w (w := 7) dX11_taken_10 rfl ?_
    obtain ⟨r2, hg, hf⟩ := bO_some hf
    refine e_callS (as := [.long (Int32.toInt64 x2), .long 0, .long 7]) (v := (some (.int r2))) (s' := s) dX11_taken_13 rfl rfl rfl rfl rfl (Nat.le_of_ble_eq_true rfl) (fun Q hQ => tX11_within (d := (d + 1)) hV  hg hQ) ?_
    refine e_if_ne 21 dX11_taken_16 (by decide) hf (fun hf => ?_) (fun hf => ?_)
    · refine e_aload_n 0 dX11_taken_21 rfl rfl ?_
      refine e_getr hV dX11_taken_22 rfl lx_X rfl ?_
      refine e_iload_n 1 dX11_taken_25 rfl rfl ?_
      refine e_iald hV dX11_taken_26 lx_X_shelf hf (fun v3 hf => ?_)
      refine e_if_ge 33 dX11_taken_27 (by decide) hf (fun hf => ?_) (fun hf => ?_)
      · refine e_aload_n 0 dX11_taken_33 rfl rfl ?_
        refine e_getr hV dX11_taken_34 rfl lx_X rfl ?_
        refine e_iload_n 1 dX11_taken_37 rfl rfl ?_
        refine e_iald hV dX11_taken_38 lx_X_shelf hf (fun v4 hf => ?_)
        refine e_bipush (w := (nI 50)) dX11_taken_39 (by decide) ?_
        refine e_icmp_lt 47 dX11_taken_41 (by decide) hf (fun hf => ?_) (fun hf => ?_)
        · refine e_aload_n 0 dX11_taken_47 rfl rfl ?_
          refine e_aload_n 0 dX11_taken_48 rfl rfl ?_
          refine e_getr hV dX11_taken_49 rfl lx_X rfl ?_
          refine e_iload_n 1 dX11_taken_52 rfl rfl ?_
          refine e_iald hV dX11_taken_53 lx_X_shelf hf (fun v5 hf => ?_)
          obtain ⟨r6, hg, hf⟩ := bO_some hf
          refine e_callV (as := [.int v5]) (v := (some (.int r6))) (s' := s) hV dX11_taken_54 (Or.inl rfl) rfl rfl rfl rfl (Nat.le_of_ble_eq_true rfl) lx_X rfl rfl (fun Q hQ => tX11_kindOf (d := (d + 1)) hV  hg hQ) ?_
          refine e_istore_n dX11_taken_57 rfl (by decide) hf (fun v7 hf => ?_)
          refine e_pick [1, 2, 3, 0] rfl ?_
          exact wX11_taken_b58 hV hP mFu x1 x2 v7 hf
        · refine e_bipush (w := (-12)) dX11_taken_44 (by decide) ?_
          obtain rfl := Option.some.inj hf
          exact e_iret dX11_taken_46 trivial hP
      · refine e_bipush (w := (-11)) dX11_taken_30 (by decide) ?_
        obtain rfl := Option.some.inj hf
        exact e_iret dX11_taken_32 trivial hP
    · refine e_iconst (w := (-1)) dX11_taken_19 (by decide) ?_
      obtain rfl := Option.some.inj hf
      exact e_iret dX11_taken_20 trivial hP

theorem dX11_count_0 : decode cX11_count 0 = .ok (.iload_n 1, 1) := by decide +kernel
theorem dX11_count_1 : decode cX11_count 1 = .ok (.tableswitch 69 0 5 #[39, 44, 49, 54, 59, 64], 39) := by decide +kernel
theorem dX11_count_40 : decode cX11_count 40 = .ok (.aload_n 0, 1) := by decide +kernel
theorem dX11_count_41 : decode cX11_count 41 = .ok (.getfield 90, 3) := by decide +kernel
theorem dX11_count_44 : decode cX11_count 44 = .ok (.ireturn, 1) := by decide +kernel
theorem dX11_count_45 : decode cX11_count 45 = .ok (.aload_n 0, 1) := by decide +kernel
theorem dX11_count_46 : decode cX11_count 46 = .ok (.getfield 97, 3) := by decide +kernel
theorem dX11_count_49 : decode cX11_count 49 = .ok (.ireturn, 1) := by decide +kernel
theorem dX11_count_50 : decode cX11_count 50 = .ok (.aload_n 0, 1) := by decide +kernel
theorem dX11_count_51 : decode cX11_count 51 = .ok (.getfield 142, 3) := by decide +kernel
theorem dX11_count_54 : decode cX11_count 54 = .ok (.ireturn, 1) := by decide +kernel
theorem dX11_count_55 : decode cX11_count 55 = .ok (.aload_n 0, 1) := by decide +kernel
theorem dX11_count_56 : decode cX11_count 56 = .ok (.getfield 84, 3) := by decide +kernel
theorem dX11_count_59 : decode cX11_count 59 = .ok (.ireturn, 1) := by decide +kernel
theorem dX11_count_60 : decode cX11_count 60 = .ok (.aload_n 0, 1) := by decide +kernel
theorem dX11_count_61 : decode cX11_count 61 = .ok (.getfield 282, 3) := by decide +kernel
theorem dX11_count_64 : decode cX11_count 64 = .ok (.ireturn, 1) := by decide +kernel
theorem dX11_count_65 : decode cX11_count 65 = .ok (.aload_n 0, 1) := by decide +kernel
theorem dX11_count_66 : decode cX11_count 66 = .ok (.getfield 287, 3) := by decide +kernel
theorem dX11_count_69 : decode cX11_count 69 = .ok (.ireturn, 1) := by decide +kernel
theorem dX11_count_70 : decode cX11_count 70 = .ok (.iconst (-1), 1) := by decide +kernel
theorem dX11_count_71 : decode cX11_count 71 = .ok (.ireturn, 1) := by decide +kernel
def fX11_count (x1 : Int32) (s : mS) : Option Int32 :=
  if x1 = (nI 0) then
    some (gI s iX_machines)
  else if x1 = (nI 1) then
    some (gI s iX_writers)
  else if x1 = (nI 2) then
    some (gI s iX_tapeMany)
  else if x1 = (nI 3) then
    some (gI s iX_done)
  else if x1 = (nI 4) then
    some (gI s iX_bodies)
  else if x1 = (nI 5) then
    some (gI s iX_ran)
  else
    some (-1)

set_option maxRecDepth 20000 in
theorem tX11_count {ρ : mRo} {d : Nat} {P : mPo} {V : mS → List mE} (hV : mView LX V)  {x1 : Int32} {s : mS} {res : Int32} (hf : fX11_count x1 s = some res) (hP : P (some (.int res)) (V s)) : mC ρ (d + 1) 231 [.ref qX, .int x1] (V s) P := by
  refine ⟨_, rfl, Nat.le_of_ble_eq_true rfl, by decide, ?_⟩
  show mG ρ (mC ρ d) 11 2 cX11_count (some .int) P 0 [(0, .ref qX), (1, .int x1)] [] (V s)
  unfold fX11_count at hf
  refine e_iload_n 1 dX11_count_0 rfl rfl ?_
  by_cases hc0 : x1 = (nI 0)
  · rw [if_pos hc0] at hf
    refine e_tabI (off := 39) (tgt := 40) dX11_count_1 hc0 (by decide) (by decide) ?_
    refine e_aload_n 0 dX11_count_40 rfl rfl ?_
    refine e_geti hV dX11_count_41 rfl lx_X rfl ?_
    obtain rfl := Option.some.inj hf
    exact e_iret dX11_count_44 trivial hP
  rw [if_neg hc0] at hf
  by_cases hc1 : x1 = (nI 1)
  · rw [if_pos hc1] at hf
    refine e_tabI (off := 44) (tgt := 45) dX11_count_1 hc1 (by decide) (by decide) ?_
    refine e_aload_n 0 dX11_count_45 rfl rfl ?_
    refine e_geti hV dX11_count_46 rfl lx_X rfl ?_
    obtain rfl := Option.some.inj hf
    exact e_iret dX11_count_49 trivial hP
  rw [if_neg hc1] at hf
  by_cases hc2 : x1 = (nI 2)
  · rw [if_pos hc2] at hf
    refine e_tabI (off := 49) (tgt := 50) dX11_count_1 hc2 (by decide) (by decide) ?_
    refine e_aload_n 0 dX11_count_50 rfl rfl ?_
    refine e_geti hV dX11_count_51 rfl lx_X rfl ?_
    obtain rfl := Option.some.inj hf
    exact e_iret dX11_count_54 trivial hP
  rw [if_neg hc2] at hf
  by_cases hc3 : x1 = (nI 3)
  · rw [if_pos hc3] at hf
    refine e_tabI (off := 54) (tgt := 55) dX11_count_1 hc3 (by decide) (by decide) ?_
    refine e_aload_n 0 dX11_count_55 rfl rfl ?_
    refine e_geti hV dX11_count_56 rfl lx_X rfl ?_
    obtain rfl := Option.some.inj hf
    exact e_iret dX11_count_59 trivial hP
  rw [if_neg hc3] at hf
  by_cases hc4 : x1 = (nI 4)
  · rw [if_pos hc4] at hf
    refine e_tabI (off := 59) (tgt := 60) dX11_count_1 hc4 (by decide) (by decide) ?_
    refine e_aload_n 0 dX11_count_60 rfl rfl ?_
    refine e_geti hV dX11_count_61 rfl lx_X rfl ?_
    obtain rfl := Option.some.inj hf
    exact e_iret dX11_count_64 trivial hP
  rw [if_neg hc4] at hf
  by_cases hc5 : x1 = (nI 5)
  · rw [if_pos hc5] at hf
    refine e_tabI (off := 64) (tgt := 65) dX11_count_1 hc5 (by decide) (by decide) ?_
    refine e_aload_n 0 dX11_count_65 rfl rfl ?_
    refine e_geti hV dX11_count_66 rfl lx_X rfl ?_
    obtain rfl := Option.some.inj hf
    exact e_iret dX11_count_69 trivial hP
  rw [if_neg hc5] at hf
  refine e_tabD (tgt := 70) (ks := [(nI 0), (nI 1), (nI 2), (nI 3), (nI 4), (nI 5)]) dX11_count_1 (by decide) (fun z hz => ?_) ?_
  · simp only [List.mem_cons, List.not_mem_nil, or_false] at hz
    rcases hz with rfl | rfl | rfl | rfl | rfl | rfl
    · exact hc0
    · exact hc1
    · exact hc2
    · exact hc3
    · exact hc4
    · exact hc5
  refine e_iconst (w := (-1)) dX11_count_70 (by decide) ?_
  obtain rfl := Option.some.inj hf
  exact e_iret dX11_count_71 trivial hP
