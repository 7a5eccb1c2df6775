-- bytecode to functions, by program (wip/gen/decomp.py)
theorem dX2_code_0 : decode cX2_code 0 = .ok (.sipush 169, 3) := by decide +kernel
theorem dX2_code_3 : decode cX2_code 3 = .ok (.iload_n 0, 1) := by decide +kernel
theorem dX2_code_4 : decode cX2_code 4 = .ok (.imul, 1) := by decide +kernel
theorem dX2_code_5 : decode cX2_code 5 = .ok (.bipush 13, 2) := by decide +kernel
theorem dX2_code_7 : decode cX2_code 7 = .ok (.iload_n 1, 1) := by decide +kernel
theorem dX2_code_8 : decode cX2_code 8 = .ok (.imul, 1) := by decide +kernel
theorem dX2_code_9 : decode cX2_code 9 = .ok (.iadd, 1) := by decide +kernel
theorem dX2_code_10 : decode cX2_code 10 = .ok (.iload_n 2, 1) := by decide +kernel
theorem dX2_code_11 : decode cX2_code 11 = .ok (.iadd, 1) := by decide +kernel
theorem dX2_code_12 : decode cX2_code 12 = .ok (.ireturn, 1) := by decide +kernel
def fX2_code (x0 : Int32) (x1 : Int32) (x2 : Int32) (s : mS) : Option Int32 :=
  some ((((nI 169) * x0) + ((nI 13) * x1)) + x2)

set_option maxRecDepth 20000 in
theorem tX2_code {ρ : mRo} {d : Nat} {P : mPo} {V : mS → List mE} (hV : mView LC V)  {x0 : Int32} {x1 : Int32} {x2 : Int32} {s : mS} {res : Int32} (hf : fX2_code x0 x1 x2 s = some res) (hP : P (some (.int res)) (V s)) : mC ρ (d + 1) 7 [.int x0, .int x1, .int x2] (V s) P := by
  refine ⟨_, rfl, Nat.le_of_ble_eq_true rfl, by decide, ?_⟩
  show mG ρ (mC ρ d) 2 3 cX2_code (some .int) P 0 [(0, .int x0), (1, .int x1), (2, .int x2)] [] (V s)
  unfold fX2_code at hf
  refine e_sipush (w := (nI 169)) dX2_code_0 (by decide) ?_
  refine e_iload_n 0 dX2_code_3 rfl rfl ?_
  refine e_imul dX2_code_4 ?_
  refine e_bipush (w := (nI 13)) dX2_code_5 (by decide) ?_
  refine e_iload_n 1 dX2_code_7 rfl rfl ?_
  refine e_imul dX2_code_8 ?_
  refine e_iadd dX2_code_9 ?_
  refine e_iload_n 2 dX2_code_10 rfl rfl ?_
  refine e_iadd dX2_code_11 ?_
  obtain rfl := Option.some.inj hf
  exact e_iret dX2_code_12 trivial hP

theorem dX2_part_0 : decode cX2_part 0 = .ok (.iload_n 1, 1) := by decide +kernel
theorem dX2_part_1 : decode cX2_part 1 = .ok (.ifCond .ne 9, 3) := by decide +kernel
theorem dX2_part_4 : decode cX2_part 4 = .ok (.iload_n 0, 1) := by decide +kernel
theorem dX2_part_5 : decode cX2_part 5 = .ok (.sipush 169, 3) := by decide +kernel
theorem dX2_part_8 : decode cX2_part 8 = .ok (.idiv, 1) := by decide +kernel
theorem dX2_part_9 : decode cX2_part 9 = .ok (.ireturn, 1) := by decide +kernel
theorem dX2_part_10 : decode cX2_part 10 = .ok (.iload_n 1, 1) := by decide +kernel
theorem dX2_part_11 : decode cX2_part 11 = .ok (.iconst 1, 1) := by decide +kernel
theorem dX2_part_12 : decode cX2_part 12 = .ok (.if_icmp .ne 13, 3) := by decide +kernel
theorem dX2_part_15 : decode cX2_part 15 = .ok (.iload_n 0, 1) := by decide +kernel
theorem dX2_part_16 : decode cX2_part 16 = .ok (.bipush 13, 2) := by decide +kernel
theorem dX2_part_18 : decode cX2_part 18 = .ok (.idiv, 1) := by decide +kernel
theorem dX2_part_19 : decode cX2_part 19 = .ok (.bipush 13, 2) := by decide +kernel
theorem dX2_part_21 : decode cX2_part 21 = .ok (.irem, 1) := by decide +kernel
theorem dX2_part_22 : decode cX2_part 22 = .ok (.goto 7, 3) := by decide +kernel
theorem dX2_part_25 : decode cX2_part 25 = .ok (.iload_n 0, 1) := by decide +kernel
theorem dX2_part_26 : decode cX2_part 26 = .ok (.bipush 13, 2) := by decide +kernel
theorem dX2_part_28 : decode cX2_part 28 = .ok (.irem, 1) := by decide +kernel
theorem dX2_part_29 : decode cX2_part 29 = .ok (.ireturn, 1) := by decide +kernel
def fX2_part (x0 : Int32) (x1 : Int32) (s : mS) : Option Int32 :=
  if x1 = 0 then
    some (x0 / (nI 169))
  else
    if x1 = (nI 1) then
      some ((x0 / (nI 13)) - (x0 / (nI 13)) / (nI 13) * (nI 13))
    else
      some (x0 - x0 / (nI 13) * (nI 13))

set_option maxRecDepth 20000 in
theorem tX2_part {ρ : mRo} {d : Nat} {P : mPo} {V : mS → List mE} (hV : mView LC V)  {x0 : Int32} {x1 : Int32} {s : mS} {res : Int32} (hf : fX2_part x0 x1 s = some res) (hP : P (some (.int res)) (V s)) : mC ρ (d + 1) 8 [.int x0, .int x1] (V s) P := by
  refine ⟨_, rfl, Nat.le_of_ble_eq_true rfl, by decide, ?_⟩
  show mG ρ (mC ρ d) 2 2 cX2_part (some .int) P 0 [(0, .int x0), (1, .int x1)] [] (V s)
  unfold fX2_part at hf
  refine e_iload_n 1 dX2_part_0 rfl rfl ?_
  refine e_if_ne 10 dX2_part_1 (by decide) hf (fun hf => ?_) (fun hf => ?_)
  · refine e_iload_n 1 dX2_part_10 rfl rfl ?_
    refine e_iconst (w := (nI 1)) dX2_part_11 (by decide) ?_
    refine e_icmp_ne 25 dX2_part_12 (by decide) hf (fun hf => ?_) (fun hf => ?_)
    · refine e_iload_n 0 dX2_part_25 rfl rfl ?_
      refine e_bipush (w := (nI 13)) dX2_part_26 (by decide) ?_
      refine e_irem dX2_part_28 (by decide) ?_
      obtain rfl := Option.some.inj hf
      exact e_iret dX2_part_29 trivial hP
    · refine e_iload_n 0 dX2_part_15 rfl rfl ?_
      refine e_bipush (w := (nI 13)) dX2_part_16 (by decide) ?_
      refine e_idiv dX2_part_18 (by decide) ?_
      refine e_bipush (w := (nI 13)) dX2_part_19 (by decide) ?_
      refine e_irem dX2_part_21 (by decide) ?_
      refine e_goto 29 dX2_part_22 (by decide) ?_
      obtain rfl := Option.some.inj hf
      exact e_iret dX2_part_29 trivial hP
  · refine e_iload_n 0 dX2_part_4 rfl rfl ?_
    refine e_sipush (w := (nI 169)) dX2_part_5 (by decide) ?_
    refine e_idiv dX2_part_8 (by decide) ?_
    obtain rfl := Option.some.inj hf
    exact e_iret dX2_part_9 trivial hP

theorem dX2_nearer_0 : decode cX2_nearer 0 = .ok (.iload_n 0, 1) := by decide +kernel
theorem dX2_nearer_1 : decode cX2_nearer 1 = .ok (.iload_n 1, 1) := by decide +kernel
theorem dX2_nearer_2 : decode cX2_nearer 2 = .ok (.if_icmp .ge 7, 3) := by decide +kernel
theorem dX2_nearer_5 : decode cX2_nearer 5 = .ok (.iload_n 0, 1) := by decide +kernel
theorem dX2_nearer_6 : decode cX2_nearer 6 = .ok (.iconst 1, 1) := by decide +kernel
theorem dX2_nearer_7 : decode cX2_nearer 7 = .ok (.iadd, 1) := by decide +kernel
theorem dX2_nearer_8 : decode cX2_nearer 8 = .ok (.ireturn, 1) := by decide +kernel
theorem dX2_nearer_9 : decode cX2_nearer 9 = .ok (.iload_n 0, 1) := by decide +kernel
theorem dX2_nearer_10 : decode cX2_nearer 10 = .ok (.iload_n 1, 1) := by decide +kernel
theorem dX2_nearer_11 : decode cX2_nearer 11 = .ok (.if_icmp .le 9, 3) := by decide +kernel
theorem dX2_nearer_14 : decode cX2_nearer 14 = .ok (.iload_n 0, 1) := by decide +kernel
theorem dX2_nearer_15 : decode cX2_nearer 15 = .ok (.iconst 1, 1) := by decide +kernel
theorem dX2_nearer_16 : decode cX2_nearer 16 = .ok (.isub, 1) := by decide +kernel
theorem dX2_nearer_17 : decode cX2_nearer 17 = .ok (.goto 4, 3) := by decide +kernel
theorem dX2_nearer_20 : decode cX2_nearer 20 = .ok (.iload_n 0, 1) := by decide +kernel
theorem dX2_nearer_21 : decode cX2_nearer 21 = .ok (.ireturn, 1) := by decide +kernel
def fX2_nearer (x0 : Int32) (x1 : Int32) (s : mS) : Option Int32 :=
  if x1 ≤ x0 then
    if x0 ≤ x1 then
      some x0
    else
      some (x0 - (nI 1))
  else
    some (x0 + (nI 1))

set_option maxRecDepth 20000 in
theorem tX2_nearer {ρ : mRo} {d : Nat} {P : mPo} {V : mS → List mE} (hV : mView LC V)  {x0 : Int32} {x1 : Int32} {s : mS} {res : Int32} (hf : fX2_nearer x0 x1 s = some res) (hP : P (some (.int res)) (V s)) : mC ρ (d + 1) 10 [.int x0, .int x1] (V s) P := by
  refine ⟨_, rfl, Nat.le_of_ble_eq_true rfl, by decide, ?_⟩
  show mG ρ (mC ρ d) 2 2 cX2_nearer (some .int) P 0 [(0, .int x0), (1, .int x1)] [] (V s)
  unfold fX2_nearer at hf
  refine e_iload_n 0 dX2_nearer_0 rfl rfl ?_
  refine e_iload_n 1 dX2_nearer_1 rfl rfl ?_
  refine e_icmp_ge 9 dX2_nearer_2 (by decide) hf (fun hf => ?_) (fun hf => ?_)
  · refine e_iload_n 0 dX2_nearer_9 rfl rfl ?_
    refine e_iload_n 1 dX2_nearer_10 rfl rfl ?_
    refine e_icmp_le 20 dX2_nearer_11 (by decide) hf (fun hf => ?_) (fun hf => ?_)
    · refine e_iload_n 0 dX2_nearer_20 rfl rfl ?_
      obtain rfl := Option.some.inj hf
      exact e_iret dX2_nearer_21 trivial hP
    · refine e_iload_n 0 dX2_nearer_14 rfl rfl ?_
      refine e_iconst (w := (nI 1)) dX2_nearer_15 (by decide) ?_
      refine e_isub dX2_nearer_16 ?_
      refine e_goto 21 dX2_nearer_17 (by decide) ?_
      obtain rfl := Option.some.inj hf
      exact e_iret dX2_nearer_21 trivial hP
  · refine e_iload_n 0 dX2_nearer_5 rfl rfl ?_
    refine e_iconst (w := (nI 1)) dX2_nearer_6 (by decide) ?_
    refine e_iadd dX2_nearer_7 ?_
    obtain rfl := Option.some.inj hf
    exact e_iret dX2_nearer_8 trivial hP

theorem dX9_hand_0 : decode cX9_hand 0 = .ok (.aload_n 0, 1) := by decide +kernel
theorem dX9_hand_1 : decode cX9_hand 1 = .ok (.getfield 11, 3) := by decide +kernel
theorem dX9_hand_4 : decode cX9_hand 4 = .ok (.iconst 3, 1) := by decide +kernel
theorem dX9_hand_5 : decode cX9_hand 5 = .ok (.iload_n 1, 1) := by decide +kernel
theorem dX9_hand_6 : decode cX9_hand 6 = .ok (.imul, 1) := by decide +kernel
theorem dX9_hand_7 : decode cX9_hand 7 = .ok (.iload_n 2, 1) := by decide +kernel
theorem dX9_hand_8 : decode cX9_hand 8 = .ok (.iadd, 1) := by decide +kernel
theorem dX9_hand_9 : decode cX9_hand 9 = .ok (.iaload, 1) := by decide +kernel
theorem dX9_hand_10 : decode cX9_hand 10 = .ok (.ireturn, 1) := by decide +kernel
def fX9_hand (k0 : Nat) (x1 : Int32) (x2 : Int32) (s : mS) : Option Int32 :=
  ldA s (aW_hands k0) 24 (((nI 3) * x1) + x2) fun v1 =>
  some v1

set_option maxRecDepth 20000 in
theorem tX9_hand {ρ : mRo} {d : Nat} {P : mPo} {V : mS → List mE} (hV : mView LC V)  {k0 : Nat} (hk0 : k0 < 2) {x1 : Int32} {x2 : Int32} {s : mS} {res : Int32} (hf : fX9_hand k0 x1 x2 s = some res) (hP : P (some (.int res)) (V s)) : mC ρ (d + 1) 60 [.ref (qW k0), .int x1, .int x2] (V s) P := by
  refine ⟨_, rfl, Nat.le_of_ble_eq_true rfl, by decide, ?_⟩
  show mG ρ (mC ρ d) 9 3 cX9_hand (some .int) P 0 [(0, .ref (qW k0)), (1, .int x1), (2, .int x2)] [] (V s)
  unfold fX9_hand at hf
  refine e_aload_n 0 dX9_hand_0 rfl rfl ?_
  refine e_getr hV dX9_hand_1 rfl (lc_W hk0) rfl ?_
  refine e_iconst (w := (nI 3)) dX9_hand_4 (by decide) ?_
  refine e_iload_n 1 dX9_hand_5 rfl rfl ?_
  refine e_imul dX9_hand_6 ?_
  refine e_iload_n 2 dX9_hand_7 rfl rfl ?_
  refine e_iadd dX9_hand_8 ?_
  refine e_iald hV dX9_hand_9 (lc_W_hands hk0) hf (fun v1 hf => ?_)
  obtain rfl := Option.some.inj hf
  exact e_iret dX9_hand_10 trivial hP

theorem dX0_typed_0 : decode cX0_typed 0 = .ok (.iload_n 0, 1) := by decide +kernel
theorem dX0_typed_1 : decode cX0_typed 1 = .ok (.iconst 0, 1) := by decide +kernel
theorem dX0_typed_2 : decode cX0_typed 2 = .ok (.invokestatic 41, 3) := by decide +kernel
theorem dX0_typed_5 : decode cX0_typed 5 = .ok (.aload_n 1, 1) := by decide +kernel
theorem dX0_typed_6 : decode cX0_typed 6 = .ok (.iload_n 2, 1) := by decide +kernel
theorem dX0_typed_7 : decode cX0_typed 7 = .ok (.iconst 0, 1) := by decide +kernel
theorem dX0_typed_8 : decode cX0_typed 8 = .ok (.invokevirtual 45, 3) := by decide +kernel
theorem dX0_typed_11 : decode cX0_typed 11 = .ok (.invokestatic 48, 3) := by decide +kernel
theorem dX0_typed_14 : decode cX0_typed 14 = .ok (.istore_n 3, 1) := by decide +kernel
theorem dX0_typed_15 : decode cX0_typed 15 = .ok (.iload_n 0, 1) := by decide +kernel
theorem dX0_typed_16 : decode cX0_typed 16 = .ok (.iconst 1, 1) := by decide +kernel
theorem dX0_typed_17 : decode cX0_typed 17 = .ok (.invokestatic 41, 3) := by decide +kernel
theorem dX0_typed_20 : decode cX0_typed 20 = .ok (.aload_n 1, 1) := by decide +kernel
theorem dX0_typed_21 : decode cX0_typed 21 = .ok (.iload_n 2, 1) := by decide +kernel
theorem dX0_typed_22 : decode cX0_typed 22 = .ok (.iconst 1, 1) := by decide +kernel
theorem dX0_typed_23 : decode cX0_typed 23 = .ok (.invokevirtual 45, 3) := by decide +kernel
theorem dX0_typed_26 : decode cX0_typed 26 = .ok (.invokestatic 48, 3) := by decide +kernel
theorem dX0_typed_29 : decode cX0_typed 29 = .ok (.istore 4, 2) := by decide +kernel
theorem dX0_typed_31 : decode cX0_typed 31 = .ok (.iload_n 0, 1) := by decide +kernel
theorem dX0_typed_32 : decode cX0_typed 32 = .ok (.iconst 2, 1) := by decide +kernel
theorem dX0_typed_33 : decode cX0_typed 33 = .ok (.invokestatic 41, 3) := by decide +kernel
theorem dX0_typed_36 : decode cX0_typed 36 = .ok (.aload_n 1, 1) := by decide +kernel
theorem dX0_typed_37 : decode cX0_typed 37 = .ok (.iload_n 2, 1) := by decide +kernel
theorem dX0_typed_38 : decode cX0_typed 38 = .ok (.iconst 2, 1) := by decide +kernel
theorem dX0_typed_39 : decode cX0_typed 39 = .ok (.invokevirtual 45, 3) := by decide +kernel
theorem dX0_typed_42 : decode cX0_typed 42 = .ok (.invokestatic 48, 3) := by decide +kernel
theorem dX0_typed_45 : decode cX0_typed 45 = .ok (.istore 5, 2) := by decide +kernel
theorem dX0_typed_47 : decode cX0_typed 47 = .ok (.iload_n 3, 1) := by decide +kernel
theorem dX0_typed_48 : decode cX0_typed 48 = .ok (.iload 4, 2) := by decide +kernel
theorem dX0_typed_50 : decode cX0_typed 50 = .ok (.iload 5, 2) := by decide +kernel
theorem dX0_typed_52 : decode cX0_typed 52 = .ok (.invokestatic 51, 3) := by decide +kernel
theorem dX0_typed_55 : decode cX0_typed 55 = .ok (.ireturn, 1) := by decide +kernel
def fX0_typed (k1 : Nat) (x0 : Int32) (x2 : Int32) (s : mS) : Option Int32 :=
  bO (fX2_part x0 (nI 0) s) fun r1 =>
  bO (fX9_hand k1 x2 (nI 0) s) fun r2 =>
  bO (fX2_nearer r1 r2 s) fun r3 =>
  bnd r3 fun v4 =>
  bO (fX2_part x0 (nI 1) s) fun r5 =>
  bO (fX9_hand k1 x2 (nI 1) s) fun r6 =>
  bO (fX2_nearer r5 r6 s) fun r7 =>
  bnd r7 fun v8 =>
  bO (fX2_part x0 (nI 2) s) fun r9 =>
  bO (fX9_hand k1 x2 (nI 2) s) fun r10 =>
  bO (fX2_nearer r9 r10 s) fun r11 =>
  bnd r11 fun v12 =>
  bO (fX2_code v4 v8 v12 s) fun r13 =>
  some r13

set_option maxRecDepth 20000 in
theorem tX0_typed {ρ : mRo} {d : Nat} {P : mPo} {V : mS → List mE} (hV : mView LC V)  {k1 : Nat} (hk1 : k1 < 2) {x0 : Int32} {x2 : Int32} {s : mS} {res : Int32} (hf : fX0_typed k1 x0 x2 s = some res) (hP : P (some (.int res)) (V s)) : mC ρ (d + 2) 1 [.int x0, .ref (qW k1), .int x2] (V s) P := by
  refine ⟨_, rfl, Nat.le_of_ble_eq_true rfl, by decide, ?_⟩
  show mG ρ (mC ρ (d + 1)) 0 6 cX0_typed (some .int) P 0 [(0, .int x0), (1, .ref (qW k1)), (2, .int x2)] [] (V s)
  unfold fX0_typed at hf
  refine e_iload_n 0 dX0_typed_0 rfl rfl ?_
  refine e_iconst (w := (nI 0)) dX0_typed_1 (by decide) ?_
  obtain ⟨r1, hg, hf⟩ := bO_some hf
  refine e_callS (as := [.int x0, .int (nI 0)]) (v := (some (.int r1))) (s' := s) dX0_typed_2 rfl rfl rfl rfl rfl (Nat.le_of_ble_eq_true rfl) (fun Q hQ => tX2_part (d := d) hV  hg hQ) ?_
  refine e_aload_n 1 dX0_typed_5 rfl rfl ?_
  refine e_iload_n 2 dX0_typed_6 rfl rfl ?_
  refine e_iconst (w := (nI 0)) dX0_typed_7 (by decide) ?_
  obtain ⟨r2, hg, hf⟩ := bO_some hf
  refine e_callV (as := [.int x2, .int (nI 0)]) (v := (some (.int r2))) (s' := s) hV dX0_typed_8 (Or.inl rfl) rfl rfl rfl rfl (Nat.le_of_ble_eq_true rfl) (lc_W hk1) rfl rfl (fun Q hQ => tX9_hand (d := d) hV hk1 hg hQ) ?_
  obtain ⟨r3, hg, hf⟩ := bO_some hf
  refine e_callS (as := [.int r1, .int r2]) (v := (some (.int r3))) (s' := s) dX0_typed_11 rfl rfl rfl rfl rfl (Nat.le_of_ble_eq_true rfl) (fun Q hQ => tX2_nearer (d := d) hV  hg hQ) ?_
  refine e_istore_n dX0_typed_14 rfl (by decide) hf (fun v4 hf => ?_)
  refine e_iload_n 1 dX0_typed_15 rfl rfl ?_
  refine e_iconst (w := (nI 1)) dX0_typed_16 (by decide) ?_
  obtain ⟨r5, hg, hf⟩ := bO_some hf
  refine e_callS (as := [.int x0, .int (nI 1)]) (v := (some (.int r5))) (s' := s) dX0_typed_17 rfl rfl rfl rfl rfl (Nat.le_of_ble_eq_true rfl) (fun Q hQ => tX2_part (d := d) hV  hg hQ) ?_
  refine e_aload_n 2 dX0_typed_20 rfl rfl ?_
  refine e_iload_n 3 dX0_typed_21 rfl rfl ?_
  refine e_iconst (w := (nI 1)) dX0_typed_22 (by decide) ?_
  obtain ⟨r6, hg, hf⟩ := bO_some hf
  refine e_callV (as := [.int x2, .int (nI 1)]) (v := (some (.int r6))) (s' := s) hV dX0_typed_23 (Or.inl rfl) rfl rfl rfl rfl (Nat.le_of_ble_eq_true rfl) (lc_W hk1) rfl rfl (fun Q hQ => tX9_hand (d := d) hV hk1 hg hQ) ?_
  obtain ⟨r7, hg, hf⟩ := bO_some hf
  refine e_callS (as := [.int r5, .int r6]) (v := (some (.int r7))) (s' := s) dX0_typed_26 rfl rfl rfl rfl rfl (Nat.le_of_ble_eq_true rfl) (fun Q hQ => tX2_nearer (d := d) hV  hg hQ) ?_
  refine e_istore dX0_typed_29 (by decide) hf (fun v8 hf => ?_)
  refine e_iload_n 2 dX0_typed_31 rfl rfl ?_
  refine e_iconst (w := (nI 2)) dX0_typed_32 (by decide) ?_
  obtain ⟨r9, hg, hf⟩ := bO_some hf
  refine e_callS (as := [.int x0, .int (nI 2)]) (v := (some (.int r9))) (s' := s) dX0_typed_33 rfl rfl rfl rfl rfl (Nat.le_of_ble_eq_true rfl) (fun Q hQ => tX2_part (d := d) hV  hg hQ) ?_
  refine e_aload_n 3 dX0_typed_36 rfl rfl ?_
  refine e_iload_n 4 dX0_typed_37 rfl rfl ?_
  refine e_iconst (w := (nI 2)) dX0_typed_38 (by decide) ?_
  obtain ⟨r10, hg, hf⟩ := bO_some hf
  refine e_callV (as := [.int x2, .int (nI 2)]) (v := (some (.int r10))) (s' := s) hV dX0_typed_39 (Or.inl rfl) rfl rfl rfl rfl (Nat.le_of_ble_eq_true rfl) (lc_W hk1) rfl rfl (fun Q hQ => tX9_hand (d := d) hV hk1 hg hQ) ?_
  obtain ⟨r11, hg, hf⟩ := bO_some hf
  refine e_callS (as := [.int r9, .int r10]) (v := (some (.int r11))) (s' := s) dX0_typed_42 rfl rfl rfl rfl rfl (Nat.le_of_ble_eq_true rfl) (fun Q hQ => tX2_nearer (d := d) hV  hg hQ) ?_
  refine e_istore dX0_typed_45 (by decide) hf (fun v12 hf => ?_)
  refine e_iload_n 2 dX0_typed_47 rfl rfl ?_
  refine e_iload 1 dX0_typed_48 rfl ?_
  refine e_iload 0 dX0_typed_50 rfl ?_
  obtain ⟨r13, hg, hf⟩ := bO_some hf
  refine e_callS (as := [.int v4, .int v8, .int v12]) (v := (some (.int r13))) (s' := s) dX0_typed_52 rfl rfl rfl rfl rfl (Nat.le_of_ble_eq_true rfl) (fun Q hQ => tX2_code (d := d) hV  hg hQ) ?_
  obtain rfl := Option.some.inj hf
  exact e_iret dX0_typed_55 trivial hP

theorem dX0_wayLength_0 : decode cX0_wayLength 0 = .ok (.iconst 0, 1) := by decide +kernel
theorem dX0_wayLength_1 : decode cX0_wayLength 1 = .ok (.istore_n 2, 1) := by decide +kernel
theorem dX0_wayLength_2 : decode cX0_wayLength 2 = .ok (.aload_n 0, 1) := by decide +kernel
theorem dX0_wayLength_3 : decode cX0_wayLength 3 = .ok (.getfield 24, 3) := by decide +kernel
theorem dX0_wayLength_6 : decode cX0_wayLength 6 = .ok (.istore_n 3, 1) := by decide +kernel
theorem dX0_wayLength_7 : decode cX0_wayLength 7 = .ok (.iload_n 3, 1) := by decide +kernel
theorem dX0_wayLength_8 : decode cX0_wayLength 8 = .ok (.iload_n 1, 1) := by decide +kernel
theorem dX0_wayLength_9 : decode cX0_wayLength 9 = .ok (.if_icmp .eq 26, 3) := by decide +kernel
theorem dX0_wayLength_12 : decode cX0_wayLength 12 = .ok (.iload_n 2, 1) := by decide +kernel
theorem dX0_wayLength_13 : decode cX0_wayLength 13 = .ok (.sipush 2197, 3) := by decide +kernel
theorem dX0_wayLength_16 : decode cX0_wayLength 16 = .ok (.if_icmp .ge 19, 3) := by decide +kernel
theorem dX0_wayLength_19 : decode cX0_wayLength 19 = .ok (.iinc 2 1, 3) := by decide +kernel
theorem dX0_wayLength_22 : decode cX0_wayLength 22 = .ok (.aload_n 0, 1) := by decide +kernel
theorem dX0_wayLength_23 : decode cX0_wayLength 23 = .ok (.getfield 9, 3) := by decide +kernel
theorem dX0_wayLength_26 : decode cX0_wayLength 26 = .ok (.iload_n 3, 1) := by decide +kernel
theorem dX0_wayLength_27 : decode cX0_wayLength 27 = .ok (.iaload, 1) := by decide +kernel
theorem dX0_wayLength_28 : decode cX0_wayLength 28 = .ok (.bipush 8, 2) := by decide +kernel
theorem dX0_wayLength_30 : decode cX0_wayLength 30 = .ok (.idiv, 1) := by decide +kernel
theorem dX0_wayLength_31 : decode cX0_wayLength 31 = .ok (.istore_n 3, 1) := by decide +kernel
theorem dX0_wayLength_32 : decode cX0_wayLength 32 = .ok (.goto (-25), 3) := by decide +kernel
theorem dX0_wayLength_35 : decode cX0_wayLength 35 = .ok (.iload_n 2, 1) := by decide +kernel
theorem dX0_wayLength_36 : decode cX0_wayLength 36 = .ok (.ireturn, 1) := by decide +kernel
def fX0_wayLength_b7 : Nat → Int32 → Int32 → Int32 → mS → Option Int32
  | 0, _, _, _, _ => none
  | k + 1, y1, y2, y3, s =>
    if y3 = y1 then
      some y2
    else
      if (nI 2197) ≤ y2 then
        some y2
      else
        bnd (y2 + (nI 1)) fun v3 =>
        ldA s aB_ways 2197 y3 fun v4 =>
        bnd (v4 / (nI 8)) fun v5 =>
        fX0_wayLength_b7 k y1 v3 v5 s

def fX0_wayLength (x1 : Int32) (s : mS) : Option Int32 :=
  bnd (nI 0) fun v1 =>
  bnd (gI s iB_goal) fun v2 =>
  fX0_wayLength_b7 mFu x1 v1 v2 s

set_option maxRecDepth 20000 in
theorem wX0_wayLength_b7 {ρ : mRo} {d : Nat} {P : mPo} {V : mS → List mE} (hV : mView LC V)  {res : Int32} {s : mS} (hP : P (some (.int res)) (V s)) : ∀ (k : Nat) (y1 : Int32) (y2 : Int32) (y3 : Int32), fX0_wayLength_b7 k y1 y2 y3 s = some res → mG ρ (mC ρ d) 0 4 cX0_wayLength (some .int) P 7 [(0, .ref qB), (1, .int y1), (2, .int y2), (3, .int y3)] [] (V s) := by
  intro k
  induction k with
  | zero => intro y1 y2 y3 hf; rw [fX0_wayLength_b7] at hf; cases hf
  | succ k ih =>
    intro y1 y2 y3 hf
    rw [fX0_wayLength_b7] at hf
    refine e_iload_n 3 dX0_wayLength_7 rfl rfl ?_
    refine e_iload_n 1 dX0_wayLength_8 rfl rfl ?_
    refine e_icmp_eq 35 dX0_wayLength_9 (by decide) hf (fun hf => ?_) (fun hf => ?_)
    · refine e_iload_n 2 dX0_wayLength_35 rfl rfl ?_
      obtain rfl := Option.some.inj hf
      exact e_iret dX0_wayLength_36 trivial hP
    · refine e_iload_n 2 dX0_wayLength_12 rfl rfl ?_
      refine e_sipush (w := (nI 2197)) dX0_wayLength_13 (by decide) ?_
      refine e_icmp_ge 35 dX0_wayLength_16 (by decide) hf (fun hf => ?_) (fun hf => ?_)
      · refine e_iload_n 2 dX0_wayLength_35 rfl rfl ?_
        obtain rfl := Option.some.inj hf
        exact e_iret dX0_wayLength_36 trivial hP
      · refine e_iinc 2 dX0_wayLength_19 (by decide) rfl hf (fun v3 hf => ?_)
        refine e_aload_n 1 dX0_wayLength_22 rfl rfl ?_
        refine e_getr hV dX0_wayLength_23 rfl lc_B rfl ?_
        refine e_iload_n 3 dX0_wayLength_26 rfl rfl ?_
        refine e_iald hV dX0_wayLength_27 lc_B_ways hf (fun v4 hf => ?_)
        refine e_bipush (w := (nI 8)) dX0_wayLength_28 (by decide) ?_
        refine e_idiv dX0_wayLength_30 (by decide) ?_
        refine e_istore_n dX0_wayLength_31 rfl (by decide) hf (fun v5 hf => ?_)
        refine e_goto 7 dX0_wayLength_32 (by decide) ?_
        refine e_pick [2, 3, 1, 0] rfl ?_
        exact ih y1 v3 v5 hf
set_option maxRecDepth 20000 in
theorem tX0_wayLength {ρ : mRo} {d : Nat} {P : mPo} {V : mS → List mE} (hV : mView LC V)  {x1 : Int32} {s : mS} {res : Int32} (hf : fX0_wayLength x1 s = some res) (hP : P (some (.int res)) (V s)) : mC ρ (d + 1) 2 [.ref qB, .int x1] (V s) P := by
  refine ⟨_, rfl, Nat.le_of_ble_eq_true rfl, by decide, ?_⟩
  show mG ρ (mC ρ d) 0 4 cX0_wayLength (some .int) P 0 [(0, .ref qB), (1, .int x1)] [] (V s)
  unfold fX0_wayLength at hf
  refine e_iconst (w := (nI 0)) dX0_wayLength_0 (by decide) ?_
  refine e_istore_n dX0_wayLength_1 rfl (by decide) hf (fun v1 hf => ?_)
  refine e_aload_n 1 dX0_wayLength_2 rfl rfl ?_
  refine e_geti hV dX0_wayLength_3 rfl lc_B rfl ?_
  refine e_istore_n dX0_wayLength_6 rfl (by decide) hf (fun v2 hf => ?_)
  refine e_pick [2, 3, 1, 0] rfl ?_
  exact wX0_wayLength_b7 hV hP mFu x1 v1 v2 hf

theorem dJ7_fill_53178_0 : decode cJ7_fill_53178 0 = .ok (.iconst 0, 1) := by decide +kernel
theorem dJ7_fill_53178_1 : decode cJ7_fill_53178 1 = .ok (.istore_n 2, 1) := by decide +kernel
theorem dJ7_fill_53178_2 : decode cJ7_fill_53178 2 = .ok (.aload_n 0, 1) := by decide +kernel
theorem dJ7_fill_53178_3 : decode cJ7_fill_53178 3 = .ok (.arraylength, 1) := by decide +kernel
theorem dJ7_fill_53178_4 : decode cJ7_fill_53178 4 = .ok (.istore_n 3, 1) := by decide +kernel
theorem dJ7_fill_53178_5 : decode cJ7_fill_53178 5 = .ok (.iload_n 2, 1) := by decide +kernel
theorem dJ7_fill_53178_6 : decode cJ7_fill_53178 6 = .ok (.iload_n 3, 1) := by decide +kernel
theorem dJ7_fill_53178_7 : decode cJ7_fill_53178 7 = .ok (.if_icmp .ge 13, 3) := by decide +kernel
theorem dJ7_fill_53178_10 : decode cJ7_fill_53178 10 = .ok (.aload_n 0, 1) := by decide +kernel
theorem dJ7_fill_53178_11 : decode cJ7_fill_53178 11 = .ok (.iload_n 2, 1) := by decide +kernel
theorem dJ7_fill_53178_12 : decode cJ7_fill_53178 12 = .ok (.iload_n 1, 1) := by decide +kernel
theorem dJ7_fill_53178_13 : decode cJ7_fill_53178 13 = .ok (.iastore, 1) := by decide +kernel
theorem dJ7_fill_53178_14 : decode cJ7_fill_53178 14 = .ok (.iinc 2 1, 3) := by decide +kernel
theorem dJ7_fill_53178_17 : decode cJ7_fill_53178 17 = .ok (.goto (-12), 3) := by decide +kernel
theorem dJ7_fill_53178_20 : decode cJ7_fill_53178 20 = .ok (.return_, 1) := by decide +kernel
def fJ7_fill_53178_b5 (n0 d0 : Nat) : Nat → Int32 → Int32 → Int32 → mS → Option mS
  | 0, _, _, _, _ => none
  | k + 1, y1, y2, y3, s =>
    if y3 ≤ y2 then
      some s
    else
      stA s d0 n0 y2 y1 fun s3 =>
      bnd (y2 + (nI 1)) fun v4 =>
      fJ7_fill_53178_b5 n0 d0 k y1 v4 y3 s3

def fJ7_fill_53178 (n0 d0 : Nat) (x1 : Int32) (s : mS) : Option mS :=
  bnd (nI 0) fun v1 =>
  bnd (nI n0) fun v2 =>
  fJ7_fill_53178_b5 n0 d0 mFu x1 v1 v2 s

set_option maxRecDepth 20000 in
theorem wJ7_fill_53178_b5 {ρ : mRo} {d : Nat} {P : mPo} {V : mS → List mE} {L : Nat → Option mLE} (hV : mView L V)  {q0 n0 d0 : Nat} (hq0 : L q0 = some (.inr (.inl (n0, d0)))) {res : mS} (hP : P none (V res)) : ∀ (k : Nat) (y1 : Int32) (y2 : Int32) (y3 : Int32) (s : mS), fJ7_fill_53178_b5 n0 d0 k y1 y2 y3 s = some res → mG ρ (mC ρ d) 15 4 cJ7_fill_53178 none P 5 [(0, .ref q0), (1, .int y1), (2, .int y2), (3, .int y3)] [] (V s) := by
  intro k
  induction k with
  | zero => intro y1 y2 y3 s hf; rw [fJ7_fill_53178_b5] at hf; cases hf
  | succ k ih =>
    intro y1 y2 y3 s hf
    rw [fJ7_fill_53178_b5] at hf
    refine e_iload_n 2 dJ7_fill_53178_5 rfl rfl ?_
    refine e_iload_n 3 dJ7_fill_53178_6 rfl rfl ?_
    refine e_icmp_ge 20 dJ7_fill_53178_7 (by decide) hf (fun hf => ?_) (fun hf => ?_)
    · obtain rfl := Option.some.inj hf
      exact e_ret dJ7_fill_53178_20 rfl hP
    · refine e_aload_n 0 dJ7_fill_53178_10 rfl rfl ?_
      refine e_iload_n 2 dJ7_fill_53178_11 rfl rfl ?_
      refine e_iload_n 1 dJ7_fill_53178_12 rfl rfl ?_
      refine e_iast hV dJ7_fill_53178_13 hq0 hf (fun s3 hf => ?_)
      refine e_iinc 2 dJ7_fill_53178_14 (by decide) rfl hf (fun v4 hf => ?_)
      refine e_goto 5 dJ7_fill_53178_17 (by decide) ?_
      refine e_pick [1, 2, 0, 3] rfl ?_
      exact ih y1 v4 y3 s3 hf
set_option maxRecDepth 20000 in
theorem tJ7_fill_53178 {ρ : mRo} {d : Nat} {P : mPo} {V : mS → List mE} {L : Nat → Option mLE} (hV : mView L V)  {q0 n0 d0 : Nat} (hq0 : L q0 = some (.inr (.inl (n0, d0)))) {x1 : Int32} {s : mS} {res : mS} (hf : fJ7_fill_53178 n0 d0 x1 s = some res) (hP : P none (V res)) : mC ρ (d + 1) 235 [.ref q0, .int x1] (V s) P := by
  refine ⟨_, rfl, Nat.le_of_ble_eq_true rfl, by decide, ?_⟩
  show mG ρ (mC ρ d) 15 4 cJ7_fill_53178 none P 0 [(0, .ref q0), (1, .int x1)] [] (V s)
  unfold fJ7_fill_53178 at hf
  refine e_iconst (w := (nI 0)) dJ7_fill_53178_0 (by decide) ?_
  refine e_istore_n dJ7_fill_53178_1 rfl (by decide) hf (fun v1 hf => ?_)
  refine e_aload_n 1 dJ7_fill_53178_2 rfl rfl ?_
  refine e_alenI (w := (nI n0)) hV dJ7_fill_53178_3 hq0 rfl ?_
  refine e_istore_n dJ7_fill_53178_4 rfl (by decide) hf (fun v2 hf => ?_)
  refine e_pick [2, 3, 1, 0] rfl ?_
  exact wJ7_fill_53178_b5 hV hq0 hP mFu x1 v1 v2 s hf

theorem dX0_fewest_0 : decode cX0_fewest 0 = .ok (.aload_n 0, 1) := by decide +kernel
theorem dX0_fewest_1 : decode cX0_fewest 1 = .ok (.getfield 9, 3) := by decide +kernel
theorem dX0_fewest_4 : decode cX0_fewest 4 = .ok (.iconst (-1), 1) := by decide +kernel
theorem dX0_fewest_5 : decode cX0_fewest 5 = .ok (.invokestatic 18, 3) := by decide +kernel
theorem dX0_fewest_8 : decode cX0_fewest 8 = .ok (.aload_n 0, 1) := by decide +kernel
theorem dX0_fewest_9 : decode cX0_fewest 9 = .ok (.iload_n 2, 1) := by decide +kernel
theorem dX0_fewest_10 : decode cX0_fewest 10 = .ok (.putfield 24, 3) := by decide +kernel
theorem dX0_fewest_13 : decode cX0_fewest 13 = .ok (.aload_n 0, 1) := by decide +kernel
theorem dX0_fewest_14 : decode cX0_fewest 14 = .ok (.getfield 15, 3) := by decide +kernel
theorem dX0_fewest_17 : decode cX0_fewest 17 = .ok (.iconst 0, 1) := by decide +kernel
theorem dX0_fewest_18 : decode cX0_fewest 18 = .ok (.iload_n 1, 1) := by decide +kernel
theorem dX0_fewest_19 : decode cX0_fewest 19 = .ok (.iastore, 1) := by decide +kernel
theorem dX0_fewest_20 : decode cX0_fewest 20 = .ok (.aload_n 0, 1) := by decide +kernel
theorem dX0_fewest_21 : decode cX0_fewest 21 = .ok (.getfield 9, 3) := by decide +kernel
theorem dX0_fewest_24 : decode cX0_fewest 24 = .ok (.iload_n 1, 1) := by decide +kernel
theorem dX0_fewest_25 : decode cX0_fewest 25 = .ok (.bipush 8, 2) := by decide +kernel
theorem dX0_fewest_27 : decode cX0_fewest 27 = .ok (.iload_n 1, 1) := by decide +kernel
theorem dX0_fewest_28 : decode cX0_fewest 28 = .ok (.imul, 1) := by decide +kernel
theorem dX0_fewest_29 : decode cX0_fewest 29 = .ok (.iastore, 1) := by decide +kernel
theorem dX0_fewest_30 : decode cX0_fewest 30 = .ok (.iconst 1, 1) := by decide +kernel
theorem dX0_fewest_31 : decode cX0_fewest 31 = .ok (.istore 4, 2) := by decide +kernel
theorem dX0_fewest_33 : decode cX0_fewest 33 = .ok (.iconst 0, 1) := by decide +kernel
theorem dX0_fewest_34 : decode cX0_fewest 34 = .ok (.istore 5, 2) := by decide +kernel
theorem dX0_fewest_36 : decode cX0_fewest 36 = .ok (.iload 5, 2) := by decide +kernel
theorem dX0_fewest_38 : decode cX0_fewest 38 = .ok (.sipush 2197, 3) := by decide +kernel
theorem dX0_fewest_41 : decode cX0_fewest 41 = .ok (.if_icmp .ge 110, 3) := by decide +kernel
theorem dX0_fewest_44 : decode cX0_fewest 44 = .ok (.iload 5, 2) := by decide +kernel
theorem dX0_fewest_46 : decode cX0_fewest 46 = .ok (.iload 4, 2) := by decide +kernel
theorem dX0_fewest_48 : decode cX0_fewest 48 = .ok (.if_icmp .ge 103, 3) := by decide +kernel
theorem dX0_fewest_51 : decode cX0_fewest 51 = .ok (.aload_n 0, 1) := by decide +kernel
theorem dX0_fewest_52 : decode cX0_fewest 52 = .ok (.getfield 9, 3) := by decide +kernel
theorem dX0_fewest_55 : decode cX0_fewest 55 = .ok (.iload_n 2, 1) := by decide +kernel
theorem dX0_fewest_56 : decode cX0_fewest 56 = .ok (.iaload, 1) := by decide +kernel
theorem dX0_fewest_57 : decode cX0_fewest 57 = .ok (.iconst (-1), 1) := by decide +kernel
theorem dX0_fewest_58 : decode cX0_fewest 58 = .ok (.if_icmp .ne 93, 3) := by decide +kernel
theorem dX0_fewest_61 : decode cX0_fewest 61 = .ok (.iconst 0, 1) := by decide +kernel
theorem dX0_fewest_62 : decode cX0_fewest 62 = .ok (.istore 6, 2) := by decide +kernel
theorem dX0_fewest_64 : decode cX0_fewest 64 = .ok (.iload 6, 2) := by decide +kernel
theorem dX0_fewest_66 : decode cX0_fewest 66 = .ok (.aload_n 3, 1) := by decide +kernel
theorem dX0_fewest_67 : decode cX0_fewest 67 = .ok (.getfield 28, 3) := by decide +kernel
theorem dX0_fewest_70 : decode cX0_fewest 70 = .ok (.if_icmp .ge 75, 3) := by decide +kernel
theorem dX0_fewest_73 : decode cX0_fewest 73 = .ok (.aload_n 0, 1) := by decide +kernel
theorem dX0_fewest_74 : decode cX0_fewest 74 = .ok (.getfield 15, 3) := by decide +kernel
theorem dX0_fewest_77 : decode cX0_fewest 77 = .ok (.iload 5, 2) := by decide +kernel
theorem dX0_fewest_79 : decode cX0_fewest 79 = .ok (.iaload, 1) := by decide +kernel
theorem dX0_fewest_80 : decode cX0_fewest 80 = .ok (.aload_n 3, 1) := by decide +kernel
theorem dX0_fewest_81 : decode cX0_fewest 81 = .ok (.iload 6, 2) := by decide +kernel
theorem dX0_fewest_83 : decode cX0_fewest 83 = .ok (.invokestatic 33, 3) := by decide +kernel
theorem dX0_fewest_86 : decode cX0_fewest 86 = .ok (.istore 7, 2) := by decide +kernel
theorem dX0_fewest_88 : decode cX0_fewest 88 = .ok (.aload_n 0, 1) := by decide +kernel
theorem dX0_fewest_89 : decode cX0_fewest 89 = .ok (.getfield 9, 3) := by decide +kernel
theorem dX0_fewest_92 : decode cX0_fewest 92 = .ok (.iload 7, 2) := by decide +kernel
theorem dX0_fewest_94 : decode cX0_fewest 94 = .ok (.iaload, 1) := by decide +kernel
theorem dX0_fewest_95 : decode cX0_fewest 95 = .ok (.iconst (-1), 1) := by decide +kernel
theorem dX0_fewest_96 : decode cX0_fewest 96 = .ok (.if_icmp .ne 43, 3) := by decide +kernel
theorem dX0_fewest_99 : decode cX0_fewest 99 = .ok (.iload 4, 2) := by decide +kernel
theorem dX0_fewest_101 : decode cX0_fewest 101 = .ok (.sipush 2197, 3) := by decide +kernel
theorem dX0_fewest_104 : decode cX0_fewest 104 = .ok (.if_icmp .ge 35, 3) := by decide +kernel
theorem dX0_fewest_107 : decode cX0_fewest 107 = .ok (.aload_n 0, 1) := by decide +kernel
theorem dX0_fewest_108 : decode cX0_fewest 108 = .ok (.getfield 9, 3) := by decide +kernel
theorem dX0_fewest_111 : decode cX0_fewest 111 = .ok (.iload 7, 2) := by decide +kernel
theorem dX0_fewest_113 : decode cX0_fewest 113 = .ok (.bipush 8, 2) := by decide +kernel
theorem dX0_fewest_115 : decode cX0_fewest 115 = .ok (.aload_n 0, 1) := by decide +kernel
theorem dX0_fewest_116 : decode cX0_fewest 116 = .ok (.getfield 15, 3) := by decide +kernel
theorem dX0_fewest_119 : decode cX0_fewest 119 = .ok (.iload 5, 2) := by decide +kernel
theorem dX0_fewest_121 : decode cX0_fewest 121 = .ok (.iaload, 1) := by decide +kernel
theorem dX0_fewest_122 : decode cX0_fewest 122 = .ok (.imul, 1) := by decide +kernel
theorem dX0_fewest_123 : decode cX0_fewest 123 = .ok (.iload 6, 2) := by decide +kernel
theorem dX0_fewest_125 : decode cX0_fewest 125 = .ok (.iadd, 1) := by decide +kernel
theorem dX0_fewest_126 : decode cX0_fewest 126 = .ok (.iastore, 1) := by decide +kernel
theorem dX0_fewest_127 : decode cX0_fewest 127 = .ok (.aload_n 0, 1) := by decide +kernel
theorem dX0_fewest_128 : decode cX0_fewest 128 = .ok (.getfield 15, 3) := by decide +kernel
theorem dX0_fewest_131 : decode cX0_fewest 131 = .ok (.iload 4, 2) := by decide +kernel
theorem dX0_fewest_133 : decode cX0_fewest 133 = .ok (.iload 7, 2) := by decide +kernel
theorem dX0_fewest_135 : decode cX0_fewest 135 = .ok (.iastore, 1) := by decide +kernel
theorem dX0_fewest_136 : decode cX0_fewest 136 = .ok (.iinc 4 1, 3) := by decide +kernel
theorem dX0_fewest_139 : decode cX0_fewest 139 = .ok (.iinc 6 1, 3) := by decide +kernel
theorem dX0_fewest_142 : decode cX0_fewest 142 = .ok (.goto (-78), 3) := by decide +kernel
theorem dX0_fewest_145 : decode cX0_fewest 145 = .ok (.iinc 5 1, 3) := by decide +kernel
theorem dX0_fewest_148 : decode cX0_fewest 148 = .ok (.goto (-112), 3) := by decide +kernel
theorem dX0_fewest_151 : decode cX0_fewest 151 = .ok (.aload_n 0, 1) := by decide +kernel
theorem dX0_fewest_152 : decode cX0_fewest 152 = .ok (.getfield 9, 3) := by decide +kernel
theorem dX0_fewest_155 : decode cX0_fewest 155 = .ok (.iload_n 2, 1) := by decide +kernel
theorem dX0_fewest_156 : decode cX0_fewest 156 = .ok (.iaload, 1) := by decide +kernel
theorem dX0_fewest_157 : decode cX0_fewest 157 = .ok (.iconst (-1), 1) := by decide +kernel
theorem dX0_fewest_158 : decode cX0_fewest 158 = .ok (.if_icmp .ne 7, 3) := by decide +kernel
theorem dX0_fewest_161 : decode cX0_fewest 161 = .ok (.iconst (-1), 1) := by decide +kernel
theorem dX0_fewest_162 : decode cX0_fewest 162 = .ok (.goto 8, 3) := by decide +kernel
theorem dX0_fewest_165 : decode cX0_fewest 165 = .ok (.aload_n 0, 1) := by decide +kernel
theorem dX0_fewest_166 : decode cX0_fewest 166 = .ok (.iload_n 1, 1) := by decide +kernel
theorem dX0_fewest_167 : decode cX0_fewest 167 = .ok (.invokevirtual 37, 3) := by decide +kernel
theorem dX0_fewest_170 : decode cX0_fewest 170 = .ok (.ireturn, 1) := by decide +kernel
def fX0_fewest_b151 (y1 : Int32) (y2 : Int32) (s : mS) : Option (Int32 × mS) :=
  ldA s aB_ways 2197 y2 fun v7 =>
  if v7 = (-1) then
    some ((-1), s)
  else
    bO (fX0_wayLength y1 s) fun r8 =>
    some (r8, s)

def fX0_fewest_b139 (K36 : Nat → Int32 → Int32 → Int32 → Int32 → mS → Option (Int32 × mS)) (K64 : Nat → Int32 → Int32 → Int32 → Int32 → Int32 → mS → Option (Int32 × mS)) (k3 : Nat) (y1 : Int32) (y2 : Int32) (y4 : Int32) (y5 : Int32) (y6 : Int32) (s : mS) : Option (Int32 × mS) :=
  bnd (y6 + (nI 1)) fun v16 =>
  K64 k3 y1 y2 y4 y5 v16 s

def fX0_fewest_b64 (K36 : Nat → Int32 → Int32 → Int32 → Int32 → mS → Option (Int32 × mS)) : Nat → Nat → Int32 → Int32 → Int32 → Int32 → Int32 → mS → Option (Int32 × mS)
  | 0, _, _, _, _, _, _, _ => none
  | k + 1, k3, y1, y2, y4, y5, y6, s =>
    if (gI s (iW_size k3)) ≤ y6 then
      bnd (y5 + (nI 1)) fun v11 =>
      K36 k3 y1 y2 y4 v11 s
    else
      ldA s aB_queue 2197 y5 fun v12 =>
      bO (fX0_typed k3 v12 y6 s) fun r13 =>
      bnd r13 fun v14 =>
      ldA s aB_ways 2197 v14 fun v15 =>
      if v15 = (-1) then
        if (nI 2197) ≤ y4 then
          fX0_fewest_b139 K36 (fun u0 u1 u2 u3 u4 u5 u6 => fX0_fewest_b64 K36 k u0 u1 u2 u3 u4 u5 u6) k3 y1 y2 y4 y5 y6 s
        else
          ldA s aB_queue 2197 y5 fun v17 =>
          stA s aB_ways 2197 v14 (((nI 8) * v17) + y6) fun s18 =>
          stA s18 aB_queue 2197 y4 v14 fun s19 =>
          bnd (y4 + (nI 1)) fun v20 =>
          fX0_fewest_b139 K36 (fun u0 u1 u2 u3 u4 u5 u6 => fX0_fewest_b64 K36 k u0 u1 u2 u3 u4 u5 u6) k3 y1 y2 v20 y5 y6 s19
      else
        fX0_fewest_b139 K36 (fun u0 u1 u2 u3 u4 u5 u6 => fX0_fewest_b64 K36 k u0 u1 u2 u3 u4 u5 u6) k3 y1 y2 y4 y5 y6 s

def fX0_fewest_b36 : Nat → Nat → Int32 → Int32 → Int32 → Int32 → mS → Option (Int32 × mS)
  | 0, _, _, _, _, _, _ => none
  | k + 1, k3, y1, y2, y4, y5, s =>
    if (nI 2197) ≤ y5 then
      fX0_fewest_b151 y1 y2 s
    else
      if y4 ≤ y5 then
        fX0_fewest_b151 y1 y2 s
      else
        ldA s aB_ways 2197 y2 fun v9 =>
        if v9 = (-1) then
          bnd (nI 0) fun v10 =>
          fX0_fewest_b64 (fun u0 u1 u2 u3 u4 u5 => fX0_fewest_b36 k u0 u1 u2 u3 u4 u5) mFu k3 y1 y2 y4 y5 v10 s
        else
          fX0_fewest_b151 y1 y2 s

def fX0_fewest (k3 : Nat) (x1 : Int32) (x2 : Int32) (s : mS) : Option (Int32 × mS) :=
  bO (fJ7_fill_53178 2197 aB_ways (-1) s) fun s1 =>
  bnd (pI s1 iB_goal x2) fun s2 =>
  stA s2 aB_queue 2197 (nI 0) x1 fun s3 =>
  stA s3 aB_ways 2197 x1 ((nI 8) * x1) fun s4 =>
  bnd (nI 1) fun v5 =>
  bnd (nI 0) fun v6 =>
  fX0_fewest_b36 mFu k3 x1 x2 v5 v6 s4

set_option maxRecDepth 20000 in
theorem wX0_fewest_b151 {ρ : mRo} {d : Nat} {P : mPo} {V : mS → List mE} (hV : mView LC V)  {res : (Int32 × mS)} (hP : P (some (.int res.1)) (V res.2)) (y1 : Int32) (y2 : Int32) (s : mS) (hf : fX0_fewest_b151 y1 y2 s = some res) : mG ρ (mC ρ (d + 2)) 0 8 cX0_fewest (some .int) P 151 [(0, .ref qB), (1, .int y1), (2, .int y2)] [] (V s) := by
  unfold fX0_fewest_b151 at hf
  refine e_aload_n 0 dX0_fewest_151 rfl rfl ?_
  refine e_getr hV dX0_fewest_152 rfl lc_B rfl ?_
  refine e_iload_n 2 dX0_fewest_155 rfl rfl ?_
  refine e_iald hV dX0_fewest_156 lc_B_ways hf (fun v7 hf => ?_)
  refine e_iconst (w := (-1)) dX0_fewest_157 (by decide) ?_
  refine e_icmp_ne 165 dX0_fewest_158 (by decide) hf (fun hf => ?_) (fun hf => ?_)
  · refine e_aload_n 0 dX0_fewest_165 rfl rfl ?_
    refine e_iload_n 1 dX0_fewest_166 rfl rfl ?_
    obtain ⟨r8, hg, hf⟩ := bO_some hf
    refine e_callV (as := [.int y1]) (v := (some (.int r8))) (s' := s) hV dX0_fewest_167 (Or.inl rfl) rfl rfl rfl rfl (Nat.le_of_ble_eq_true rfl) lc_B rfl rfl (fun Q hQ => tX0_wayLength (d := (d + 1)) hV  hg hQ) ?_
    obtain rfl := Option.some.inj hf
    exact e_iret dX0_fewest_170 trivial hP
  · refine e_iconst (w := (-1)) dX0_fewest_161 (by decide) ?_
    refine e_goto 170 dX0_fewest_162 (by decide) ?_
    obtain rfl := Option.some.inj hf
    exact e_iret dX0_fewest_170 trivial hP
set_option maxRecDepth 20000 in
theorem wX0_fewest_b139 {ρ : mRo} {d : Nat} {P : mPo} {V : mS → List mE} (hV : mView LC V)  {res : (Int32 × mS)} {K36 : Nat → Int32 → Int32 → Int32 → Int32 → mS → Option (Int32 × mS)} (hK36 : ∀ (k3 : Nat) (hk3 : k3 < 2) (y1 : Int32) (y2 : Int32) (y4 : Int32) (y5 : Int32) (s : mS), K36 k3 y1 y2 y4 y5 s = some res → mG ρ (mC ρ (d + 2)) 0 8 cX0_fewest (some .int) P 36 [(0, .ref qB), (1, .int y1), (2, .int y2), (3, .ref (qW k3)), (4, .int y4), (5, .int y5)] [] (V s)) {K64 : Nat → Int32 → Int32 → Int32 → Int32 → Int32 → mS → Option (Int32 × mS)} (hK64 : ∀ (k3 : Nat) (hk3 : k3 < 2) (y1 : Int32) (y2 : Int32) (y4 : Int32) (y5 : Int32) (y6 : Int32) (s : mS), K64 k3 y1 y2 y4 y5 y6 s = some res → mG ρ (mC ρ (d + 2)) 0 8 cX0_fewest (some .int) P 64 [(0, .ref qB), (1, .int y1), (2, .int y2), (3, .ref (qW k3)), (4, .int y4), (5, .int y5), (6, .int y6)] [] (V s)) (hP : P (some (.int res.1)) (V res.2)) (k3 : Nat) (hk3 : k3 < 2) (y1 : Int32) (y2 : Int32) (y4 : Int32) (y5 : Int32) (y6 : Int32) (s : mS) (hf : fX0_fewest_b139 K36 K64 k3 y1 y2 y4 y5 y6 s = some res) : mG ρ (mC ρ (d + 2)) 0 8 cX0_fewest (some .int) P 139 [(0, .ref qB), (1, .int y1), (2, .int y2), (3, .ref (qW k3)), (4, .int y4), (5, .int y5), (6, .int y6)] [] (V s) := by
  unfold fX0_fewest_b139 at hf
  refine e_iinc 6 dX0_fewest_139 (by decide) rfl hf (fun v16 hf => ?_)
  refine e_goto 64 dX0_fewest_142 (by decide) ?_
  refine e_pick [1, 2, 3, 4, 5, 6, 0] rfl ?_
  exact hK64 k3 hk3 y1 y2 y4 y5 v16 s hf
set_option maxRecDepth 20000 in
theorem wX0_fewest_b64 {ρ : mRo} {d : Nat} {P : mPo} {V : mS → List mE} (hV : mView LC V)  {res : (Int32 × mS)} {K36 : Nat → Int32 → Int32 → Int32 → Int32 → mS → Option (Int32 × mS)} (hK36 : ∀ (k3 : Nat) (hk3 : k3 < 2) (y1 : Int32) (y2 : Int32) (y4 : Int32) (y5 : Int32) (s : mS), K36 k3 y1 y2 y4 y5 s = some res → mG ρ (mC ρ (d + 2)) 0 8 cX0_fewest (some .int) P 36 [(0, .ref qB), (1, .int y1), (2, .int y2), (3, .ref (qW k3)), (4, .int y4), (5, .int y5)] [] (V s)) (hP : P (some (.int res.1)) (V res.2)) : ∀ (k : Nat) (k3 : Nat) (hk3 : k3 < 2) (y1 : Int32) (y2 : Int32) (y4 : Int32) (y5 : Int32) (y6 : Int32) (s : mS), fX0_fewest_b64 K36 k k3 y1 y2 y4 y5 y6 s = some res → mG ρ (mC ρ (d + 2)) 0 8 cX0_fewest (some .int) P 64 [(0, .ref qB), (1, .int y1), (2, .int y2), (3, .ref (qW k3)), (4, .int y4), (5, .int y5), (6, .int y6)] [] (V s) := by
  intro k
  induction k with
  | zero => intro k3 hk3 y1 y2 y4 y5 y6 s hf; rw [fX0_fewest_b64] at hf; cases hf
  | succ k ih =>
    intro k3 hk3 y1 y2 y4 y5 y6 s hf
    rw [fX0_fewest_b64] at hf
    refine e_iload 6 dX0_fewest_64 rfl ?_
    refine e_aload_n 3 dX0_fewest_66 rfl rfl ?_
    refine e_geti hV dX0_fewest_67 rfl (lc_W hk3) rfl ?_
    refine e_icmp_ge 145 dX0_fewest_70 (by decide) hf (fun hf => ?_) (fun hf => ?_)
    · refine e_iinc 5 dX0_fewest_145 (by decide) rfl hf (fun v11 hf => ?_)
      refine e_goto 36 dX0_fewest_148 (by decide) ?_
      refine e_pick [1, 2, 3, 4, 5, 0] rfl ?_
      exact hK36 k3 hk3 y1 y2 y4 v11 s hf
    · refine e_aload_n 0 dX0_fewest_73 rfl rfl ?_
      refine e_getr hV dX0_fewest_74 rfl lc_B rfl ?_
      refine e_iload 5 dX0_fewest_77 rfl ?_
      refine e_iald hV dX0_fewest_79 lc_B_queue hf (fun v12 hf => ?_)
      refine e_aload_n 3 dX0_fewest_80 rfl rfl ?_
      refine e_iload 6 dX0_fewest_81 rfl ?_
      obtain ⟨r13, hg, hf⟩ := bO_some hf
      refine e_callS (as := [.int v12, .ref (qW k3), .int y6]) (v := (some (.int r13))) (s' := s) dX0_fewest_83 rfl rfl rfl rfl rfl (Nat.le_of_ble_eq_true rfl) (fun Q hQ => tX0_typed (d := d) hV hk3 hg hQ) ?_
      refine e_istore dX0_fewest_86 (by decide) hf (fun v14 hf => ?_)
      refine e_aload_n 1 dX0_fewest_88 rfl rfl ?_
      refine e_getr hV dX0_fewest_89 rfl lc_B rfl ?_
      refine e_iload 0 dX0_fewest_92 rfl ?_
      refine e_iald hV dX0_fewest_94 lc_B_ways hf (fun v15 hf => ?_)
      refine e_iconst (w := (-1)) dX0_fewest_95 (by decide) ?_
      refine e_icmp_ne 139 dX0_fewest_96 (by decide) hf (fun hf => ?_) (fun hf => ?_)
      · refine e_pick [1, 2, 3, 4, 5, 6, 7] rfl ?_
        exact wX0_fewest_b139 hV hK36 ih hP k3 hk3 y1 y2 y4 y5 y6 s hf
      · refine e_iload 5 dX0_fewest_99 rfl ?_
        refine e_sipush (w := (nI 2197)) dX0_fewest_101 (by decide) ?_
        refine e_icmp_ge 139 dX0_fewest_104 (by decide) hf (fun hf => ?_) (fun hf => ?_)
        · refine e_pick [1, 2, 3, 4, 5, 6, 7] rfl ?_
          exact wX0_fewest_b139 hV hK36 ih hP k3 hk3 y1 y2 y4 y5 y6 s hf
        · refine e_aload_n 1 dX0_fewest_107 rfl rfl ?_
          refine e_getr hV dX0_fewest_108 rfl lc_B rfl ?_
          refine e_iload 0 dX0_fewest_111 rfl ?_
          refine e_bipush (w := (nI 8)) dX0_fewest_113 (by decide) ?_
          refine e_aload_n 1 dX0_fewest_115 rfl rfl ?_
          refine e_getr hV dX0_fewest_116 rfl lc_B rfl ?_
          refine e_iload 6 dX0_fewest_119 rfl ?_
          refine e_iald hV dX0_fewest_121 lc_B_queue hf (fun v17 hf => ?_)
          refine e_imul dX0_fewest_122 ?_
          refine e_iload 7 dX0_fewest_123 rfl ?_
          refine e_iadd dX0_fewest_125 ?_
          refine e_iast hV dX0_fewest_126 lc_B_ways hf (fun s18 hf => ?_)
          refine e_aload_n 1 dX0_fewest_127 rfl rfl ?_
          refine e_getr hV dX0_fewest_128 rfl lc_B rfl ?_
          refine e_iload 5 dX0_fewest_131 rfl ?_
          refine e_iload 0 dX0_fewest_133 rfl ?_
          refine e_iast hV dX0_fewest_135 lc_B_queue hf (fun s19 hf => ?_)
          refine e_iinc 5 dX0_fewest_136 (by decide) rfl hf (fun v20 hf => ?_)
          refine e_pick [2, 3, 4, 5, 0, 6, 7] rfl ?_
          exact wX0_fewest_b139 hV hK36 ih hP k3 hk3 y1 y2 v20 y5 y6 s19 hf
set_option maxRecDepth 20000 in
theorem wX0_fewest_b36 {ρ : mRo} {d : Nat} {P : mPo} {V : mS → List mE} (hV : mView LC V)  {res : (Int32 × mS)} (hP : P (some (.int res.1)) (V res.2)) : ∀ (k : Nat) (k3 : Nat) (hk3 : k3 < 2) (y1 : Int32) (y2 : Int32) (y4 : Int32) (y5 : Int32) (s : mS), fX0_fewest_b36 k k3 y1 y2 y4 y5 s = some res → mG ρ (mC ρ (d + 2)) 0 8 cX0_fewest (some .int) P 36 [(0, .ref qB), (1, .int y1), (2, .int y2), (3, .ref (qW k3)), (4, .int y4), (5, .int y5)] [] (V s) := by
  intro k
  induction k with
  | zero => intro k3 hk3 y1 y2 y4 y5 s hf; rw [fX0_fewest_b36] at hf; cases hf
  | succ k ih =>
    intro k3 hk3 y1 y2 y4 y5 s hf
    rw [fX0_fewest_b36] at hf
    refine e_iload 5 dX0_fewest_36 rfl ?_
    refine e_sipush (w := (nI 2197)) dX0_fewest_38 (by decide) ?_
    refine e_icmp_ge 151 dX0_fewest_41 (by decide) hf (fun hf => ?_) (fun hf => ?_)
    · refine e_pick [0, 1, 2] rfl ?_
      exact wX0_fewest_b151 hV hP y1 y2 s hf
    · refine e_iload 5 dX0_fewest_44 rfl ?_
      refine e_iload 4 dX0_fewest_46 rfl ?_
      refine e_icmp_ge 151 dX0_fewest_48 (by decide) hf (fun hf => ?_) (fun hf => ?_)
      · refine e_pick [0, 1, 2] rfl ?_
        exact wX0_fewest_b151 hV hP y1 y2 s hf
      · refine e_aload_n 0 dX0_fewest_51 rfl rfl ?_
        refine e_getr hV dX0_fewest_52 rfl lc_B rfl ?_
        refine e_iload_n 2 dX0_fewest_55 rfl rfl ?_
        refine e_iald hV dX0_fewest_56 lc_B_ways hf (fun v9 hf => ?_)
        refine e_iconst (w := (-1)) dX0_fewest_57 (by decide) ?_
        refine e_icmp_ne 151 dX0_fewest_58 (by decide) hf (fun hf => ?_) (fun hf => ?_)
        · refine e_pick [0, 1, 2] rfl ?_
          exact wX0_fewest_b151 hV hP y1 y2 s hf
        · refine e_iconst (w := (nI 0)) dX0_fewest_61 (by decide) ?_
          refine e_istore dX0_fewest_62 (by decide) hf (fun v10 hf => ?_)
          refine e_pick [1, 2, 3, 4, 5, 6, 0] rfl ?_
          exact wX0_fewest_b64 hV ih hP mFu k3 hk3 y1 y2 y4 y5 v10 s hf
set_option maxRecDepth 20000 in
theorem tX0_fewest {ρ : mRo} {d : Nat} {P : mPo} {V : mS → List mE} (hV : mView LC V)  {k3 : Nat} (hk3 : k3 < 2) {x1 : Int32} {x2 : Int32} {s : mS} {res : (Int32 × mS)} (hf : fX0_fewest k3 x1 x2 s = some res) (hP : P (some (.int res.1)) (V res.2)) : mC ρ (d + 3) 0 [.ref qB, .int x1, .int x2, .ref (qW k3)] (V s) P := by
  refine ⟨_, rfl, Nat.le_of_ble_eq_true rfl, by decide, ?_⟩
  show mG ρ (mC ρ (d + 2)) 0 8 cX0_fewest (some .int) P 0 [(0, .ref qB), (1, .int x1), (2, .int x2), (3, .ref (qW k3))] [] (V s)
  unfold fX0_fewest at hf
  refine e_aload_n 0 dX0_fewest_0 rfl rfl ?_
  refine e_getr hV dX0_fewest_1 rfl lc_B rfl ?_
  refine e_iconst (w := (-1)) dX0_fewest_4 (by decide) ?_
  obtain ⟨s1, hg, hf⟩ := bO_some hf
  refine e_callS (as := [.ref qB_ways, .int (-1)]) (v := none) (s' := s1) dX0_fewest_5 rfl rfl rfl rfl rfl (Nat.le_of_ble_eq_true rfl) (fun Q hQ => tJ7_fill_53178 (d := (d + 1)) hV lc_B_ways hg hQ) ?_
  refine e_aload_n 0 dX0_fewest_8 rfl rfl ?_
  refine e_iload_n 2 dX0_fewest_9 rfl rfl ?_
  refine e_puti hV dX0_fewest_10 rfl rfl rfl (Or.inl rfl) lc_B rfl hf (fun s2 hf => ?_)
  refine e_aload_n 0 dX0_fewest_13 rfl rfl ?_
  refine e_getr hV dX0_fewest_14 rfl lc_B rfl ?_
  refine e_iconst (w := (nI 0)) dX0_fewest_17 (by decide) ?_
  refine e_iload_n 1 dX0_fewest_18 rfl rfl ?_
  refine e_iast hV dX0_fewest_19 lc_B_queue hf (fun s3 hf => ?_)
  refine e_aload_n 0 dX0_fewest_20 rfl rfl ?_
  refine e_getr hV dX0_fewest_21 rfl lc_B rfl ?_
  refine e_iload_n 1 dX0_fewest_24 rfl rfl ?_
  refine e_bipush (w := (nI 8)) dX0_fewest_25 (by decide) ?_
  refine e_iload_n 1 dX0_fewest_27 rfl rfl ?_
  refine e_imul dX0_fewest_28 ?_
  refine e_iast hV dX0_fewest_29 lc_B_ways hf (fun s4 hf => ?_)
  refine e_iconst (w := (nI 1)) dX0_fewest_30 (by decide) ?_
  refine e_istore dX0_fewest_31 (by decide) hf (fun v5 hf => ?_)
  refine e_iconst (w := (nI 0)) dX0_fewest_33 (by decide) ?_
  refine e_istore dX0_fewest_34 (by decide) hf (fun v6 hf => ?_)
  refine e_pick [2, 3, 4, 5, 1, 0] rfl ?_
  exact wX0_fewest_b36 hV hP mFu k3 hk3 x1 x2 v5 v6 s4 hf

theorem dX0_writerOfStep_0 : decode cX0_writerOfStep 0 = .ok (.aload_n 0, 1) := by decide +kernel
theorem dX0_writerOfStep_1 : decode cX0_writerOfStep 1 = .ok (.getfield 24, 3) := by decide +kernel
theorem dX0_writerOfStep_4 : decode cX0_writerOfStep 4 = .ok (.istore_n 3, 1) := by decide +kernel
theorem dX0_writerOfStep_5 : decode cX0_writerOfStep 5 = .ok (.iload_n 1, 1) := by decide +kernel
theorem dX0_writerOfStep_6 : decode cX0_writerOfStep 6 = .ok (.iconst 1, 1) := by decide +kernel
theorem dX0_writerOfStep_7 : decode cX0_writerOfStep 7 = .ok (.isub, 1) := by decide +kernel
theorem dX0_writerOfStep_8 : decode cX0_writerOfStep 8 = .ok (.istore 4, 2) := by decide +kernel
theorem dX0_writerOfStep_10 : decode cX0_writerOfStep 10 = .ok (.iload 4, 2) := by decide +kernel
theorem dX0_writerOfStep_12 : decode cX0_writerOfStep 12 = .ok (.iload_n 2, 1) := by decide +kernel
theorem dX0_writerOfStep_13 : decode cX0_writerOfStep 13 = .ok (.if_icmp .le 19, 3) := by decide +kernel
theorem dX0_writerOfStep_16 : decode cX0_writerOfStep 16 = .ok (.aload_n 0, 1) := by decide +kernel
theorem dX0_writerOfStep_17 : decode cX0_writerOfStep 17 = .ok (.getfield 9, 3) := by decide +kernel
theorem dX0_writerOfStep_20 : decode cX0_writerOfStep 20 = .ok (.iload_n 3, 1) := by decide +kernel
theorem dX0_writerOfStep_21 : decode cX0_writerOfStep 21 = .ok (.iaload, 1) := by decide +kernel
theorem dX0_writerOfStep_22 : decode cX0_writerOfStep 22 = .ok (.bipush 8, 2) := by decide +kernel
theorem dX0_writerOfStep_24 : decode cX0_writerOfStep 24 = .ok (.idiv, 1) := by decide +kernel
theorem dX0_writerOfStep_25 : decode cX0_writerOfStep 25 = .ok (.istore_n 3, 1) := by decide +kernel
theorem dX0_writerOfStep_26 : decode cX0_writerOfStep 26 = .ok (.iinc 4 (-1), 3) := by decide +kernel
theorem dX0_writerOfStep_29 : decode cX0_writerOfStep 29 = .ok (.goto (-19), 3) := by decide +kernel
theorem dX0_writerOfStep_32 : decode cX0_writerOfStep 32 = .ok (.aload_n 0, 1) := by decide +kernel
theorem dX0_writerOfStep_33 : decode cX0_writerOfStep 33 = .ok (.getfield 9, 3) := by decide +kernel
theorem dX0_writerOfStep_36 : decode cX0_writerOfStep 36 = .ok (.iload_n 3, 1) := by decide +kernel
theorem dX0_writerOfStep_37 : decode cX0_writerOfStep 37 = .ok (.iaload, 1) := by decide +kernel
theorem dX0_writerOfStep_38 : decode cX0_writerOfStep 38 = .ok (.bipush 8, 2) := by decide +kernel
theorem dX0_writerOfStep_40 : decode cX0_writerOfStep 40 = .ok (.irem, 1) := by decide +kernel
theorem dX0_writerOfStep_41 : decode cX0_writerOfStep 41 = .ok (.ireturn, 1) := by decide +kernel
def fX0_writerOfStep_b10 : Nat → Int32 → Int32 → Int32 → mS → Option Int32
  | 0, _, _, _, _ => none
  | k + 1, y2, y3, y4, s =>
    if y4 ≤ y2 then
      ldA s aB_ways 2197 y3 fun v3 =>
      some (v3 - v3 / (nI 8) * (nI 8))
    else
      ldA s aB_ways 2197 y3 fun v4 =>
      bnd (v4 / (nI 8)) fun v5 =>
      bnd (y4 + (-1)) fun v6 =>
      fX0_writerOfStep_b10 k y2 v5 v6 s

def fX0_writerOfStep (x1 : Int32) (x2 : Int32) (s : mS) : Option Int32 :=
  bnd (gI s iB_goal) fun v1 =>
  bnd (x1 - (nI 1)) fun v2 =>
  fX0_writerOfStep_b10 mFu x2 v1 v2 s

set_option maxRecDepth 20000 in
theorem wX0_writerOfStep_b10 {ρ : mRo} {d : Nat} {P : mPo} {V : mS → List mE} (hV : mView LC V)  {res : Int32} {s : mS} (hP : P (some (.int res)) (V s)) : ∀ (k : Nat) (y2 : Int32) (y3 : Int32) (y4 : Int32), fX0_writerOfStep_b10 k y2 y3 y4 s = some res → mG ρ (mC ρ d) 0 5 cX0_writerOfStep (some .int) P 10 [(0, .ref qB), (2, .int y2), (3, .int y3), (4, .int y4)] [] (V s) := by
  intro k
  induction k with
  | zero => intro y2 y3 y4 hf; rw [fX0_writerOfStep_b10] at hf; cases hf
  | succ k ih =>
    intro y2 y3 y4 hf
    rw [fX0_writerOfStep_b10] at hf
    refine e_iload 3 dX0_writerOfStep_10 rfl ?_
    refine e_iload_n 1 dX0_writerOfStep_12 rfl rfl ?_
    refine e_icmp_le 32 dX0_writerOfStep_13 (by decide) hf (fun hf => ?_) (fun hf => ?_)
    · refine e_aload_n 0 dX0_writerOfStep_32 rfl rfl ?_
      refine e_getr hV dX0_writerOfStep_33 rfl lc_B rfl ?_
      refine e_iload_n 2 dX0_writerOfStep_36 rfl rfl ?_
      refine e_iald hV dX0_writerOfStep_37 lc_B_ways hf (fun v3 hf => ?_)
      refine e_bipush (w := (nI 8)) dX0_writerOfStep_38 (by decide) ?_
      refine e_irem dX0_writerOfStep_40 (by decide) ?_
      obtain rfl := Option.some.inj hf
      exact e_iret dX0_writerOfStep_41 trivial hP
    · refine e_aload_n 0 dX0_writerOfStep_16 rfl rfl ?_
      refine e_getr hV dX0_writerOfStep_17 rfl lc_B rfl ?_
      refine e_iload_n 2 dX0_writerOfStep_20 rfl rfl ?_
      refine e_iald hV dX0_writerOfStep_21 lc_B_ways hf (fun v4 hf => ?_)
      refine e_bipush (w := (nI 8)) dX0_writerOfStep_22 (by decide) ?_
      refine e_idiv dX0_writerOfStep_24 (by decide) ?_
      refine e_istore_n dX0_writerOfStep_25 rfl (by decide) hf (fun v5 hf => ?_)
      refine e_iinc 3 dX0_writerOfStep_26 (by decide) rfl hf (fun v6 hf => ?_)
      refine e_goto 10 dX0_writerOfStep_29 (by decide) ?_
      refine e_pick [2, 3, 1, 0] rfl ?_
      exact ih y2 v5 v6 hf
set_option maxRecDepth 20000 in
theorem tX0_writerOfStep {ρ : mRo} {d : Nat} {P : mPo} {V : mS → List mE} (hV : mView LC V)  {x1 : Int32} {x2 : Int32} {s : mS} {res : Int32} (hf : fX0_writerOfStep x1 x2 s = some res) (hP : P (some (.int res)) (V s)) : mC ρ (d + 1) 3 [.ref qB, .int x1, .int x2] (V s) P := by
  refine ⟨_, rfl, Nat.le_of_ble_eq_true rfl, by decide, ?_⟩
  show mG ρ (mC ρ d) 0 5 cX0_writerOfStep (some .int) P 0 [(0, .ref qB), (1, .int x1), (2, .int x2)] [] (V s)
  unfold fX0_writerOfStep at hf
  refine e_aload_n 0 dX0_writerOfStep_0 rfl rfl ?_
  refine e_geti hV dX0_writerOfStep_1 rfl lc_B rfl ?_
  refine e_istore_n dX0_writerOfStep_4 rfl (by decide) hf (fun v1 hf => ?_)
  refine e_iload_n 2 dX0_writerOfStep_5 rfl rfl ?_
  refine e_iconst (w := (nI 1)) dX0_writerOfStep_6 (by decide) ?_
  refine e_isub dX0_writerOfStep_7 ?_
  refine e_istore dX0_writerOfStep_8 (by decide) hf (fun v2 hf => ?_)
  refine e_pick [2, 4, 1, 0] rfl ?_
  exact wX0_writerOfStep_b10 hV hP mFu x2 v1 v2 hf

theorem dX1_dropOldest_0 : decode cX1_dropOldest 0 = .ok (.aload_n 0, 1) := by decide +kernel
theorem dX1_dropOldest_1 : decode cX1_dropOldest 1 = .ok (.getfield 9, 3) := by decide +kernel
theorem dX1_dropOldest_4 : decode cX1_dropOldest 4 = .ok (.iconst 1, 1) := by decide +kernel
theorem dX1_dropOldest_5 : decode cX1_dropOldest 5 = .ok (.aload_n 0, 1) := by decide +kernel
theorem dX1_dropOldest_6 : decode cX1_dropOldest 6 = .ok (.getfield 9, 3) := by decide +kernel
theorem dX1_dropOldest_9 : decode cX1_dropOldest 9 = .ok (.iconst 0, 1) := by decide +kernel
theorem dX1_dropOldest_10 : decode cX1_dropOldest 10 = .ok (.bipush 39, 2) := by decide +kernel
theorem dX1_dropOldest_12 : decode cX1_dropOldest 12 = .ok (.invokestatic 32, 3) := by decide +kernel
theorem dX1_dropOldest_15 : decode cX1_dropOldest 15 = .ok (.aload_n 0, 1) := by decide +kernel
theorem dX1_dropOldest_16 : decode cX1_dropOldest 16 = .ok (.getfield 13, 3) := by decide +kernel
theorem dX1_dropOldest_19 : decode cX1_dropOldest 19 = .ok (.iconst 1, 1) := by decide +kernel
theorem dX1_dropOldest_20 : decode cX1_dropOldest 20 = .ok (.aload_n 0, 1) := by decide +kernel
theorem dX1_dropOldest_21 : decode cX1_dropOldest 21 = .ok (.getfield 13, 3) := by decide +kernel
theorem dX1_dropOldest_24 : decode cX1_dropOldest 24 = .ok (.iconst 0, 1) := by decide +kernel
theorem dX1_dropOldest_25 : decode cX1_dropOldest 25 = .ok (.bipush 39, 2) := by decide +kernel
theorem dX1_dropOldest_27 : decode cX1_dropOldest 27 = .ok (.invokestatic 32, 3) := by decide +kernel
theorem dX1_dropOldest_30 : decode cX1_dropOldest 30 = .ok (.aload_n 0, 1) := by decide +kernel
theorem dX1_dropOldest_31 : decode cX1_dropOldest 31 = .ok (.getfield 16, 3) := by decide +kernel
theorem dX1_dropOldest_34 : decode cX1_dropOldest 34 = .ok (.iconst 1, 1) := by decide +kernel
theorem dX1_dropOldest_35 : decode cX1_dropOldest 35 = .ok (.aload_n 0, 1) := by decide +kernel
theorem dX1_dropOldest_36 : decode cX1_dropOldest 36 = .ok (.getfield 16, 3) := by decide +kernel
theorem dX1_dropOldest_39 : decode cX1_dropOldest 39 = .ok (.iconst 0, 1) := by decide +kernel
theorem dX1_dropOldest_40 : decode cX1_dropOldest 40 = .ok (.bipush 39, 2) := by decide +kernel
theorem dX1_dropOldest_42 : decode cX1_dropOldest 42 = .ok (.invokestatic 32, 3) := by decide +kernel
theorem dX1_dropOldest_45 : decode cX1_dropOldest 45 = .ok (.aload_n 0, 1) := by decide +kernel
theorem dX1_dropOldest_46 : decode cX1_dropOldest 46 = .ok (.getfield 19, 3) := by decide +kernel
theorem dX1_dropOldest_49 : decode cX1_dropOldest 49 = .ok (.iconst 1, 1) := by decide +kernel
theorem dX1_dropOldest_50 : decode cX1_dropOldest 50 = .ok (.aload_n 0, 1) := by decide +kernel
theorem dX1_dropOldest_51 : decode cX1_dropOldest 51 = .ok (.getfield 19, 3) := by decide +kernel
theorem dX1_dropOldest_54 : decode cX1_dropOldest 54 = .ok (.iconst 0, 1) := by decide +kernel
theorem dX1_dropOldest_55 : decode cX1_dropOldest 55 = .ok (.bipush 39, 2) := by decide +kernel
theorem dX1_dropOldest_57 : decode cX1_dropOldest 57 = .ok (.invokestatic 32, 3) := by decide +kernel
theorem dX1_dropOldest_60 : decode cX1_dropOldest 60 = .ok (.aload_n 0, 1) := by decide +kernel
theorem dX1_dropOldest_61 : decode cX1_dropOldest 61 = .ok (.bipush 39, 2) := by decide +kernel
theorem dX1_dropOldest_63 : decode cX1_dropOldest 63 = .ok (.putfield 22, 3) := by decide +kernel
theorem dX1_dropOldest_66 : decode cX1_dropOldest 66 = .ok (.return_, 1) := by decide +kernel
def fX1_dropOldest (s : mS) : Option mS :=
  cpA s aH_numbers 40 aH_numbers 40 (nI 1) (nI 0) (nI 39) fun s1 =>
  cpA s1 aH_whats 40 aH_whats 40 (nI 1) (nI 0) (nI 39) fun s2 =>
  cpA s2 aH_olds 40 aH_olds 40 (nI 1) (nI 0) (nI 39) fun s3 =>
  cpA s3 aH_news 40 aH_news 40 (nI 1) (nI 0) (nI 39) fun s4 =>
  bnd (pI s4 iH_done (nI 39)) fun s5 =>
  some s5

set_option maxRecDepth 20000 in
theorem tX1_dropOldest {ρ : mRo} {d : Nat} {P : mPo} {V : mS → List mE} (hV : mView LC V)  {s : mS} {res : mS} (hf : fX1_dropOldest s = some res) (hP : P none (V res)) : mC ρ (d + 1) 5 [.ref qH] (V s) P := by
  refine ⟨_, rfl, Nat.le_of_ble_eq_true rfl, by decide, ?_⟩
  show mG ρ (mC ρ d) 1 1 cX1_dropOldest none P 0 [(0, .ref qH)] [] (V s)
  unfold fX1_dropOldest at hf
  refine e_aload_n 0 dX1_dropOldest_0 rfl rfl ?_
  refine e_getr hV dX1_dropOldest_1 rfl lc_H rfl ?_
  refine e_iconst (w := (nI 1)) dX1_dropOldest_4 (by decide) ?_
  refine e_aload_n 0 dX1_dropOldest_5 rfl rfl ?_
  refine e_getr hV dX1_dropOldest_6 rfl lc_H rfl ?_
  refine e_iconst (w := (nI 0)) dX1_dropOldest_9 (by decide) ?_
  refine e_bipush (w := (nI 39)) dX1_dropOldest_10 (by decide) ?_
  refine e_cpA hV dX1_dropOldest_12 (by decide) (Nat.le_of_ble_eq_true rfl) lc_H_numbers lc_H_numbers hf (fun s1 hf => ?_)
  refine e_aload_n 0 dX1_dropOldest_15 rfl rfl ?_
  refine e_getr hV dX1_dropOldest_16 rfl lc_H rfl ?_
  refine e_iconst (w := (nI 1)) dX1_dropOldest_19 (by decide) ?_
  refine e_aload_n 0 dX1_dropOldest_20 rfl rfl ?_
  refine e_getr hV dX1_dropOldest_21 rfl lc_H rfl ?_
  refine e_iconst (w := (nI 0)) dX1_dropOldest_24 (by decide) ?_
  refine e_bipush (w := (nI 39)) dX1_dropOldest_25 (by decide) ?_
  refine e_cpA hV dX1_dropOldest_27 (by decide) (Nat.le_of_ble_eq_true rfl) lc_H_whats lc_H_whats hf (fun s2 hf => ?_)
  refine e_aload_n 0 dX1_dropOldest_30 rfl rfl ?_
  refine e_getr hV dX1_dropOldest_31 rfl lc_H rfl ?_
  refine e_iconst (w := (nI 1)) dX1_dropOldest_34 (by decide) ?_
  refine e_aload_n 0 dX1_dropOldest_35 rfl rfl ?_
  refine e_getr hV dX1_dropOldest_36 rfl lc_H rfl ?_
  refine e_iconst (w := (nI 0)) dX1_dropOldest_39 (by decide) ?_
  refine e_bipush (w := (nI 39)) dX1_dropOldest_40 (by decide) ?_
  refine e_cpA hV dX1_dropOldest_42 (by decide) (Nat.le_of_ble_eq_true rfl) lc_H_olds lc_H_olds hf (fun s3 hf => ?_)
  refine e_aload_n 0 dX1_dropOldest_45 rfl rfl ?_
  refine e_getr hV dX1_dropOldest_46 rfl lc_H rfl ?_
  refine e_iconst (w := (nI 1)) dX1_dropOldest_49 (by decide) ?_
  refine e_aload_n 0 dX1_dropOldest_50 rfl rfl ?_
  refine e_getr hV dX1_dropOldest_51 rfl lc_H rfl ?_
  refine e_iconst (w := (nI 0)) dX1_dropOldest_54 (by decide) ?_
  refine e_bipush (w := (nI 39)) dX1_dropOldest_55 (by decide) ?_
  refine e_cpA hV dX1_dropOldest_57 (by decide) (Nat.le_of_ble_eq_true rfl) lc_H_news lc_H_news hf (fun s4 hf => ?_)
  refine e_aload_n 0 dX1_dropOldest_60 rfl rfl ?_
  refine e_bipush (w := (nI 39)) dX1_dropOldest_61 (by decide) ?_
  refine e_puti hV dX1_dropOldest_63 rfl rfl rfl (Or.inl rfl) lc_H rfl hf (fun s5 hf => ?_)
  obtain rfl := Option.some.inj hf
  exact e_ret dX1_dropOldest_66 rfl hP

theorem dX1_add_0 : decode cX1_add 0 = .ok (.aload_n 0, 1) := by decide +kernel
theorem dX1_add_1 : decode cX1_add 1 = .ok (.getfield 22, 3) := by decide +kernel
theorem dX1_add_4 : decode cX1_add 4 = .ok (.bipush 40, 2) := by decide +kernel
theorem dX1_add_6 : decode cX1_add 6 = .ok (.if_icmp .lt 7, 3) := by decide +kernel
theorem dX1_add_9 : decode cX1_add 9 = .ok (.aload_n 0, 1) := by decide +kernel
theorem dX1_add_10 : decode cX1_add 10 = .ok (.invokevirtual 26, 3) := by decide +kernel
theorem dX1_add_13 : decode cX1_add 13 = .ok (.aload_n 0, 1) := by decide +kernel
theorem dX1_add_14 : decode cX1_add 14 = .ok (.getfield 9, 3) := by decide +kernel
theorem dX1_add_17 : decode cX1_add 17 = .ok (.aload_n 0, 1) := by decide +kernel
theorem dX1_add_18 : decode cX1_add 18 = .ok (.getfield 22, 3) := by decide +kernel
theorem dX1_add_21 : decode cX1_add 21 = .ok (.iload_n 1, 1) := by decide +kernel
theorem dX1_add_22 : decode cX1_add 22 = .ok (.iastore, 1) := by decide +kernel
theorem dX1_add_23 : decode cX1_add 23 = .ok (.aload_n 0, 1) := by decide +kernel
theorem dX1_add_24 : decode cX1_add 24 = .ok (.getfield 13, 3) := by decide +kernel
theorem dX1_add_27 : decode cX1_add 27 = .ok (.aload_n 0, 1) := by decide +kernel
theorem dX1_add_28 : decode cX1_add 28 = .ok (.getfield 22, 3) := by decide +kernel
theorem dX1_add_31 : decode cX1_add 31 = .ok (.iload_n 2, 1) := by decide +kernel
theorem dX1_add_32 : decode cX1_add 32 = .ok (.iastore, 1) := by decide +kernel
theorem dX1_add_33 : decode cX1_add 33 = .ok (.aload_n 0, 1) := by decide +kernel
theorem dX1_add_34 : decode cX1_add 34 = .ok (.getfield 16, 3) := by decide +kernel
theorem dX1_add_37 : decode cX1_add 37 = .ok (.aload_n 0, 1) := by decide +kernel
theorem dX1_add_38 : decode cX1_add 38 = .ok (.getfield 22, 3) := by decide +kernel
theorem dX1_add_41 : decode cX1_add 41 = .ok (.iload_n 3, 1) := by decide +kernel
theorem dX1_add_42 : decode cX1_add 42 = .ok (.iastore, 1) := by decide +kernel
theorem dX1_add_43 : decode cX1_add 43 = .ok (.aload_n 0, 1) := by decide +kernel
theorem dX1_add_44 : decode cX1_add 44 = .ok (.getfield 19, 3) := by decide +kernel
theorem dX1_add_47 : decode cX1_add 47 = .ok (.aload_n 0, 1) := by decide +kernel
theorem dX1_add_48 : decode cX1_add 48 = .ok (.getfield 22, 3) := by decide +kernel
theorem dX1_add_51 : decode cX1_add 51 = .ok (.iload 4, 2) := by decide +kernel
theorem dX1_add_53 : decode cX1_add 53 = .ok (.iastore, 1) := by decide +kernel
theorem dX1_add_54 : decode cX1_add 54 = .ok (.aload_n 0, 1) := by decide +kernel
theorem dX1_add_55 : decode cX1_add 55 = .ok (.dup, 1) := by decide +kernel
theorem dX1_add_56 : decode cX1_add 56 = .ok (.getfield 22, 3) := by decide +kernel
theorem dX1_add_59 : decode cX1_add 59 = .ok (.iconst 1, 1) := by decide +kernel
theorem dX1_add_60 : decode cX1_add 60 = .ok (.iadd, 1) := by decide +kernel
theorem dX1_add_61 : decode cX1_add 61 = .ok (.putfield 22, 3) := by decide +kernel
theorem dX1_add_64 : decode cX1_add 64 = .ok (.aload_n 0, 1) := by decide +kernel
theorem dX1_add_65 : decode cX1_add 65 = .ok (.aload_n 0, 1) := by decide +kernel
theorem dX1_add_66 : decode cX1_add 66 = .ok (.getfield 22, 3) := by decide +kernel
theorem dX1_add_69 : decode cX1_add 69 = .ok (.putfield 29, 3) := by decide +kernel
theorem dX1_add_72 : decode cX1_add 72 = .ok (.return_, 1) := by decide +kernel
def fX1_add_b13 (y1 : Int32) (y2 : Int32) (y3 : Int32) (y4 : Int32) (s : mS) : Option mS :=
  stA s aH_numbers 40 (gI s iH_done) y1 fun s1 =>
  stA s1 aH_whats 40 (gI s1 iH_done) y2 fun s2 =>
  stA s2 aH_olds 40 (gI s2 iH_done) y3 fun s3 =>
  stA s3 aH_news 40 (gI s3 iH_done) y4 fun s4 =>
  bnd (pI s4 iH_done ((gI s4 iH_done) + (nI 1))) fun s5 =>
  bnd (pI s5 iH_kept (gI s5 iH_done)) fun s6 =>
  some s6

def fX1_add (x1 : Int32) (x2 : Int32) (x3 : Int32) (x4 : Int32) (s : mS) : Option mS :=
  if (gI s iH_done) < (nI 40) then
    fX1_add_b13 x1 x2 x3 x4 s
  else
    bO (fX1_dropOldest s) fun s7 =>
    fX1_add_b13 x1 x2 x3 x4 s7

set_option maxRecDepth 20000 in
theorem wX1_add_b13 {ρ : mRo} {d : Nat} {P : mPo} {V : mS → List mE} (hV : mView LC V)  {res : mS} (hP : P none (V res)) (y1 : Int32) (y2 : Int32) (y3 : Int32) (y4 : Int32) (s : mS) (hf : fX1_add_b13 y1 y2 y3 y4 s = some res) : mG ρ (mC ρ (d + 1)) 1 5 cX1_add none P 13 [(0, .ref qH), (1, .int y1), (2, .int y2), (3, .int y3), (4, .int y4)] [] (V s) := by
  unfold fX1_add_b13 at hf
  refine e_aload_n 0 dX1_add_13 rfl rfl ?_
  refine e_getr hV dX1_add_14 rfl lc_H rfl ?_
  refine e_aload_n 0 dX1_add_17 rfl rfl ?_
  refine e_geti hV dX1_add_18 rfl lc_H rfl ?_
  refine e_iload_n 1 dX1_add_21 rfl rfl ?_
  refine e_iast hV dX1_add_22 lc_H_numbers hf (fun s1 hf => ?_)
  refine e_aload_n 0 dX1_add_23 rfl rfl ?_
  refine e_getr hV dX1_add_24 rfl lc_H rfl ?_
  refine e_aload_n 0 dX1_add_27 rfl rfl ?_
  refine e_geti hV dX1_add_28 rfl lc_H rfl ?_
  refine e_iload_n 2 dX1_add_31 rfl rfl ?_
  refine e_iast hV dX1_add_32 lc_H_whats hf (fun s2 hf => ?_)
  refine e_aload_n 0 dX1_add_33 rfl rfl ?_
  refine e_getr hV dX1_add_34 rfl lc_H rfl ?_
  refine e_aload_n 0 dX1_add_37 rfl rfl ?_
  refine e_geti hV dX1_add_38 rfl lc_H rfl ?_
  refine e_iload_n 3 dX1_add_41 rfl rfl ?_
  refine e_iast hV dX1_add_42 lc_H_olds hf (fun s3 hf => ?_)
  refine e_aload_n 0 dX1_add_43 rfl rfl ?_
  refine e_getr hV dX1_add_44 rfl lc_H rfl ?_
  refine e_aload_n 0 dX1_add_47 rfl rfl ?_
  refine e_geti hV dX1_add_48 rfl lc_H rfl ?_
  refine e_iload 4 dX1_add_51 rfl ?_
  refine e_iast hV dX1_add_53 lc_H_news hf (fun s4 hf => ?_)
  refine e_aload_n 0 dX1_add_54 rfl rfl ?_
  refine e_dup dX1_add_55 rfl ?_
  refine e_geti hV dX1_add_56 rfl lc_H rfl ?_
  refine e_iconst (w := (nI 1)) dX1_add_59 (by decide) ?_
  refine e_iadd dX1_add_60 ?_
  refine e_puti hV dX1_add_61 rfl rfl rfl (Or.inl rfl) lc_H rfl hf (fun s5 hf => ?_)
  refine e_aload_n 0 dX1_add_64 rfl rfl ?_
  refine e_aload_n 0 dX1_add_65 rfl rfl ?_
  refine e_geti hV dX1_add_66 rfl lc_H rfl ?_
  refine e_puti hV dX1_add_69 rfl rfl rfl (Or.inl rfl) lc_H rfl hf (fun s6 hf => ?_)
  obtain rfl := Option.some.inj hf
  exact e_ret dX1_add_72 rfl hP
set_option maxRecDepth 20000 in
theorem tX1_add {ρ : mRo} {d : Nat} {P : mPo} {V : mS → List mE} (hV : mView LC V)  {x1 : Int32} {x2 : Int32} {x3 : Int32} {x4 : Int32} {s : mS} {res : mS} (hf : fX1_add x1 x2 x3 x4 s = some res) (hP : P none (V res)) : mC ρ (d + 2) 4 [.ref qH, .int x1, .int x2, .int x3, .int x4] (V s) P := by
  refine ⟨_, rfl, Nat.le_of_ble_eq_true rfl, by decide, ?_⟩
  show mG ρ (mC ρ (d + 1)) 1 5 cX1_add none P 0 [(0, .ref qH), (1, .int x1), (2, .int x2), (3, .int x3), (4, .int x4)] [] (V s)
  unfold fX1_add at hf
  refine e_aload_n 0 dX1_add_0 rfl rfl ?_
  refine e_geti hV dX1_add_1 rfl lc_H rfl ?_
  refine e_bipush (w := (nI 40)) dX1_add_4 (by decide) ?_
  refine e_icmp_lt 13 dX1_add_6 (by decide) hf (fun hf => ?_) (fun hf => ?_)
  · refine e_pick [0, 1, 2, 3, 4] rfl ?_
    exact wX1_add_b13 hV hP x1 x2 x3 x4 s hf
  · refine e_aload_n 0 dX1_add_9 rfl rfl ?_
    obtain ⟨s7, hg, hf⟩ := bO_some hf
    refine e_callV (as := []) (v := none) (s' := s7) hV dX1_add_10 (Or.inl rfl) rfl rfl rfl rfl (Nat.le_of_ble_eq_true rfl) lc_H rfl rfl (fun Q hQ => tX1_dropOldest (d := d) hV  hg hQ) ?_
    refine e_pick [0, 1, 2, 3, 4] rfl ?_
    exact wX1_add_b13 hV hP x1 x2 x3 x4 s7 hf

theorem dX2_isCode_0 : decode cX2_isCode 0 = .ok (.iload_n 0, 1) := by decide +kernel
theorem dX2_isCode_1 : decode cX2_isCode 1 = .ok (.ifCond .lt 14, 3) := by decide +kernel
theorem dX2_isCode_4 : decode cX2_isCode 4 = .ok (.iload_n 0, 1) := by decide +kernel
theorem dX2_isCode_5 : decode cX2_isCode 5 = .ok (.sipush 2197, 3) := by decide +kernel
theorem dX2_isCode_8 : decode cX2_isCode 8 = .ok (.if_icmp .ge 7, 3) := by decide +kernel
theorem dX2_isCode_11 : decode cX2_isCode 11 = .ok (.iconst 1, 1) := by decide +kernel
theorem dX2_isCode_12 : decode cX2_isCode 12 = .ok (.goto 4, 3) := by decide +kernel
theorem dX2_isCode_15 : decode cX2_isCode 15 = .ok (.iconst 0, 1) := by decide +kernel
theorem dX2_isCode_16 : decode cX2_isCode 16 = .ok (.ireturn, 1) := by decide +kernel
def fX2_isCode (x0 : Int32) (s : mS) : Option Int32 :=
  if x0 < 0 then
    some (nI 0)
  else
    if (nI 2197) ≤ x0 then
      some (nI 0)
    else
      some (nI 1)

set_option maxRecDepth 20000 in
theorem tX2_isCode {ρ : mRo} {d : Nat} {P : mPo} {V : mS → List mE} (hV : mView LC V)  {x0 : Int32} {s : mS} {res : Int32} (hf : fX2_isCode x0 s = some res) (hP : P (some (.int res)) (V s)) : mC ρ (d + 1) 6 [.int x0] (V s) P := by
  refine ⟨_, rfl, Nat.le_of_ble_eq_true rfl, by decide, ?_⟩
  show mG ρ (mC ρ d) 2 1 cX2_isCode (some .boolean) P 0 [(0, .int x0)] [] (V s)
  unfold fX2_isCode at hf
  refine e_iload_n 0 dX2_isCode_0 rfl rfl ?_
  refine e_if_lt 15 dX2_isCode_1 (by decide) hf (fun hf => ?_) (fun hf => ?_)
  · refine e_iconst (w := (nI 0)) dX2_isCode_15 (by decide) ?_
    obtain rfl := Option.some.inj hf
    exact e_iret dX2_isCode_16 (Or.inl rfl) hP
  · refine e_iload_n 0 dX2_isCode_4 rfl rfl ?_
    refine e_sipush (w := (nI 2197)) dX2_isCode_5 (by decide) ?_
    refine e_icmp_ge 15 dX2_isCode_8 (by decide) hf (fun hf => ?_) (fun hf => ?_)
    · refine e_iconst (w := (nI 0)) dX2_isCode_15 (by decide) ?_
      obtain rfl := Option.some.inj hf
      exact e_iret dX2_isCode_16 (Or.inl rfl) hP
    · refine e_iconst (w := (nI 1)) dX2_isCode_11 (by decide) ?_
      refine e_goto 16 dX2_isCode_12 (by decide) ?_
      obtain rfl := Option.some.inj hf
      exact e_iret dX2_isCode_16 (Or.inr rfl) hP

theorem dX2_sum_0 : decode cX2_sum 0 = .ok (.iload_n 0, 1) := by decide +kernel
theorem dX2_sum_1 : decode cX2_sum 1 = .ok (.iconst 0, 1) := by decide +kernel
theorem dX2_sum_2 : decode cX2_sum 2 = .ok (.invokestatic 9, 3) := by decide +kernel
theorem dX2_sum_5 : decode cX2_sum 5 = .ok (.iload_n 0, 1) := by decide +kernel
theorem dX2_sum_6 : decode cX2_sum 6 = .ok (.iconst 1, 1) := by decide +kernel
theorem dX2_sum_7 : decode cX2_sum 7 = .ok (.invokestatic 9, 3) := by decide +kernel
theorem dX2_sum_10 : decode cX2_sum 10 = .ok (.iadd, 1) := by decide +kernel
theorem dX2_sum_11 : decode cX2_sum 11 = .ok (.iload_n 0, 1) := by decide +kernel
theorem dX2_sum_12 : decode cX2_sum 12 = .ok (.iconst 2, 1) := by decide +kernel
theorem dX2_sum_13 : decode cX2_sum 13 = .ok (.invokestatic 9, 3) := by decide +kernel
theorem dX2_sum_16 : decode cX2_sum 16 = .ok (.iadd, 1) := by decide +kernel
theorem dX2_sum_17 : decode cX2_sum 17 = .ok (.ireturn, 1) := by decide +kernel
def fX2_sum (x0 : Int32) (s : mS) : Option Int32 :=
  bO (fX2_part x0 (nI 0) s) fun r1 =>
  bO (fX2_part x0 (nI 1) s) fun r2 =>
  bO (fX2_part x0 (nI 2) s) fun r3 =>
  some ((r1 + r2) + r3)

set_option maxRecDepth 20000 in
theorem tX2_sum {ρ : mRo} {d : Nat} {P : mPo} {V : mS → List mE} (hV : mView LC V)  {x0 : Int32} {s : mS} {res : Int32} (hf : fX2_sum x0 s = some res) (hP : P (some (.int res)) (V s)) : mC ρ (d + 2) 9 [.int x0] (V s) P := by
  refine ⟨_, rfl, Nat.le_of_ble_eq_true rfl, by decide, ?_⟩
  show mG ρ (mC ρ (d + 1)) 2 1 cX2_sum (some .int) P 0 [(0, .int x0)] [] (V s)
  unfold fX2_sum at hf
  refine e_iload_n 0 dX2_sum_0 rfl rfl ?_
  refine e_iconst (w := (nI 0)) dX2_sum_1 (by decide) ?_
  obtain ⟨r1, hg, hf⟩ := bO_some hf
  refine e_callS (as := [.int x0, .int (nI 0)]) (v := (some (.int r1))) (s' := s) dX2_sum_2 rfl rfl rfl rfl rfl (Nat.le_of_ble_eq_true rfl) (fun Q hQ => tX2_part (d := d) hV  hg hQ) ?_
  refine e_iload_n 0 dX2_sum_5 rfl rfl ?_
  refine e_iconst (w := (nI 1)) dX2_sum_6 (by decide) ?_
  obtain ⟨r2, hg, hf⟩ := bO_some hf
  refine e_callS (as := [.int x0, .int (nI 1)]) (v := (some (.int r2))) (s' := s) dX2_sum_7 rfl rfl rfl rfl rfl (Nat.le_of_ble_eq_true rfl) (fun Q hQ => tX2_part (d := d) hV  hg hQ) ?_
  refine e_iadd dX2_sum_10 ?_
  refine e_iload_n 0 dX2_sum_11 rfl rfl ?_
  refine e_iconst (w := (nI 2)) dX2_sum_12 (by decide) ?_
  obtain ⟨r3, hg, hf⟩ := bO_some hf
  refine e_callS (as := [.int x0, .int (nI 2)]) (v := (some (.int r3))) (s' := s) dX2_sum_13 rfl rfl rfl rfl rfl (Nat.le_of_ble_eq_true rfl) (fun Q hQ => tX2_part (d := d) hV  hg hQ) ?_
  refine e_iadd dX2_sum_16 ?_
  obtain rfl := Option.some.inj hf
  exact e_iret dX2_sum_17 trivial hP

theorem dX3_has_0 : decode cX3_has 0 = .ok (.iload_n 1, 1) := by decide +kernel
theorem dX3_has_1 : decode cX3_has 1 = .ok (.ifCond .lt 15, 3) := by decide +kernel
theorem dX3_has_4 : decode cX3_has 4 = .ok (.iload_n 1, 1) := by decide +kernel
theorem dX3_has_5 : decode cX3_has 5 = .ok (.aload_n 0, 1) := by decide +kernel
theorem dX3_has_6 : decode cX3_has 6 = .ok (.getfield 16, 3) := by decide +kernel
theorem dX3_has_9 : decode cX3_has 9 = .ok (.if_icmp .ge 7, 3) := by decide +kernel
theorem dX3_has_12 : decode cX3_has 12 = .ok (.iconst 1, 1) := by decide +kernel
theorem dX3_has_13 : decode cX3_has 13 = .ok (.goto 4, 3) := by decide +kernel
theorem dX3_has_16 : decode cX3_has 16 = .ok (.iconst 0, 1) := by decide +kernel
theorem dX3_has_17 : decode cX3_has 17 = .ok (.ireturn, 1) := by decide +kernel
def fX3_has (x1 : Int32) (s : mS) : Option Int32 :=
  if x1 < 0 then
    some (nI 0)
  else
    if (gI s iU_size) ≤ x1 then
      some (nI 0)
    else
      some (nI 1)

set_option maxRecDepth 20000 in
theorem tX3_has {ρ : mRo} {d : Nat} {P : mPo} {V : mS → List mE} (hV : mView LC V)  {x1 : Int32} {s : mS} {res : Int32} (hf : fX3_has x1 s = some res) (hP : P (some (.int res)) (V s)) : mC ρ (d + 1) 11 [.ref qU, .int x1] (V s) P := by
  refine ⟨_, rfl, Nat.le_of_ble_eq_true rfl, by decide, ?_⟩
  show mG ρ (mC ρ d) 3 2 cX3_has (some .boolean) P 0 [(0, .ref qU), (1, .int x1)] [] (V s)
  unfold fX3_has at hf
  refine e_iload_n 1 dX3_has_0 rfl rfl ?_
  refine e_if_lt 16 dX3_has_1 (by decide) hf (fun hf => ?_) (fun hf => ?_)
  · refine e_iconst (w := (nI 0)) dX3_has_16 (by decide) ?_
    obtain rfl := Option.some.inj hf
    exact e_iret dX3_has_17 (Or.inl rfl) hP
  · refine e_iload_n 1 dX3_has_4 rfl rfl ?_
    refine e_aload_n 0 dX3_has_5 rfl rfl ?_
    refine e_geti hV dX3_has_6 rfl lc_U rfl ?_
    refine e_icmp_ge 16 dX3_has_9 (by decide) hf (fun hf => ?_) (fun hf => ?_)
    · refine e_iconst (w := (nI 0)) dX3_has_16 (by decide) ?_
      obtain rfl := Option.some.inj hf
      exact e_iret dX3_has_17 (Or.inl rfl) hP
    · refine e_iconst (w := (nI 1)) dX3_has_12 (by decide) ?_
      refine e_goto 17 dX3_has_13 (by decide) ?_
      obtain rfl := Option.some.inj hf
      exact e_iret dX3_has_17 (Or.inr rfl) hP

theorem dX3_isFull_0 : decode cX3_isFull 0 = .ok (.aload_n 0, 1) := by decide +kernel
theorem dX3_isFull_1 : decode cX3_isFull 1 = .ok (.getfield 16, 3) := by decide +kernel
theorem dX3_isFull_4 : decode cX3_isFull 4 = .ok (.bipush 50, 2) := by decide +kernel
theorem dX3_isFull_6 : decode cX3_isFull 6 = .ok (.if_icmp .lt 7, 3) := by decide +kernel
theorem dX3_isFull_9 : decode cX3_isFull 9 = .ok (.iconst 1, 1) := by decide +kernel
theorem dX3_isFull_10 : decode cX3_isFull 10 = .ok (.goto 4, 3) := by decide +kernel
theorem dX3_isFull_13 : decode cX3_isFull 13 = .ok (.iconst 0, 1) := by decide +kernel
theorem dX3_isFull_14 : decode cX3_isFull 14 = .ok (.ireturn, 1) := by decide +kernel
def fX3_isFull (s : mS) : Option Int32 :=
  if (gI s iU_size) < (nI 50) then
    some (nI 0)
  else
    some (nI 1)

set_option maxRecDepth 20000 in
theorem tX3_isFull {ρ : mRo} {d : Nat} {P : mPo} {V : mS → List mE} (hV : mView LC V)  {s : mS} {res : Int32} (hf : fX3_isFull s = some res) (hP : P (some (.int res)) (V s)) : mC ρ (d + 1) 12 [.ref qU] (V s) P := by
  refine ⟨_, rfl, Nat.le_of_ble_eq_true rfl, by decide, ?_⟩
  show mG ρ (mC ρ d) 3 1 cX3_isFull (some .boolean) P 0 [(0, .ref qU)] [] (V s)
  unfold fX3_isFull at hf
  refine e_aload_n 0 dX3_isFull_0 rfl rfl ?_
  refine e_geti hV dX3_isFull_1 rfl lc_U rfl ?_
  refine e_bipush (w := (nI 50)) dX3_isFull_4 (by decide) ?_
  refine e_icmp_lt 13 dX3_isFull_6 (by decide) hf (fun hf => ?_) (fun hf => ?_)
  · refine e_iconst (w := (nI 0)) dX3_isFull_13 (by decide) ?_
    obtain rfl := Option.some.inj hf
    exact e_iret dX3_isFull_14 (Or.inl rfl) hP
  · refine e_iconst (w := (nI 1)) dX3_isFull_9 (by decide) ?_
    refine e_goto 14 dX3_isFull_10 (by decide) ?_
    obtain rfl := Option.some.inj hf
    exact e_iret dX3_isFull_14 (Or.inr rfl) hP

theorem dX3_join_0 : decode cX3_join 0 = .ok (.aload_n 0, 1) := by decide +kernel
theorem dX3_join_1 : decode cX3_join 1 = .ok (.getfield 9, 3) := by decide +kernel
theorem dX3_join_4 : decode cX3_join 4 = .ok (.aload_n 0, 1) := by decide +kernel
theorem dX3_join_5 : decode cX3_join 5 = .ok (.getfield 16, 3) := by decide +kernel
theorem dX3_join_8 : decode cX3_join 8 = .ok (.iload_n 1, 1) := by decide +kernel
theorem dX3_join_9 : decode cX3_join 9 = .ok (.iastore, 1) := by decide +kernel
theorem dX3_join_10 : decode cX3_join 10 = .ok (.aload_n 0, 1) := by decide +kernel
theorem dX3_join_11 : decode cX3_join 11 = .ok (.dup, 1) := by decide +kernel
theorem dX3_join_12 : decode cX3_join 12 = .ok (.getfield 16, 3) := by decide +kernel
theorem dX3_join_15 : decode cX3_join 15 = .ok (.iconst 1, 1) := by decide +kernel
theorem dX3_join_16 : decode cX3_join 16 = .ok (.iadd, 1) := by decide +kernel
theorem dX3_join_17 : decode cX3_join 17 = .ok (.putfield 16, 3) := by decide +kernel
theorem dX3_join_20 : decode cX3_join 20 = .ok (.aload_n 0, 1) := by decide +kernel
theorem dX3_join_21 : decode cX3_join 21 = .ok (.getfield 16, 3) := by decide +kernel
theorem dX3_join_24 : decode cX3_join 24 = .ok (.iconst 1, 1) := by decide +kernel
theorem dX3_join_25 : decode cX3_join 25 = .ok (.isub, 1) := by decide +kernel
theorem dX3_join_26 : decode cX3_join 26 = .ok (.ireturn, 1) := by decide +kernel
def fX3_join (x1 : Int32) (s : mS) : Option (Int32 × mS) :=
  stA s aU_kinds 50 (gI s iU_size) x1 fun s1 =>
  bnd (pI s1 iU_size ((gI s1 iU_size) + (nI 1))) fun s2 =>
  some ((gI s2 iU_size) - (nI 1), s2)

set_option maxRecDepth 20000 in
theorem tX3_join {ρ : mRo} {d : Nat} {P : mPo} {V : mS → List mE} (hV : mView LC V)  {x1 : Int32} {s : mS} {res : (Int32 × mS)} (hf : fX3_join x1 s = some res) (hP : P (some (.int res.1)) (V res.2)) : mC ρ (d + 1) 13 [.ref qU, .int x1] (V s) P := by
  refine ⟨_, rfl, Nat.le_of_ble_eq_true rfl, by decide, ?_⟩
  show mG ρ (mC ρ d) 3 2 cX3_join (some .int) P 0 [(0, .ref qU), (1, .int x1)] [] (V s)
  unfold fX3_join at hf
  refine e_aload_n 0 dX3_join_0 rfl rfl ?_
  refine e_getr hV dX3_join_1 rfl lc_U rfl ?_
  refine e_aload_n 0 dX3_join_4 rfl rfl ?_
  refine e_geti hV dX3_join_5 rfl lc_U rfl ?_
  refine e_iload_n 1 dX3_join_8 rfl rfl ?_
  refine e_iast hV dX3_join_9 lc_U_kinds hf (fun s1 hf => ?_)
  refine e_aload_n 0 dX3_join_10 rfl rfl ?_
  refine e_dup dX3_join_11 rfl ?_
  refine e_geti hV dX3_join_12 rfl lc_U rfl ?_
  refine e_iconst (w := (nI 1)) dX3_join_15 (by decide) ?_
  refine e_iadd dX3_join_16 ?_
  refine e_puti hV dX3_join_17 rfl rfl rfl (Or.inl rfl) lc_U rfl hf (fun s2 hf => ?_)
  refine e_aload_n 0 dX3_join_20 rfl rfl ?_
  refine e_geti hV dX3_join_21 rfl lc_U rfl ?_
  refine e_iconst (w := (nI 1)) dX3_join_24 (by decide) ?_
  refine e_isub dX3_join_25 ?_
  obtain rfl := Option.some.inj hf
  exact e_iret dX3_join_26 trivial hP

theorem dX3_isUnder_0 : decode cX3_isUnder 0 = .ok (.iload_n 0, 1) := by decide +kernel
theorem dX3_isUnder_1 : decode cX3_isUnder 1 = .ok (.istore_n 2, 1) := by decide +kernel
theorem dX3_isUnder_2 : decode cX3_isUnder 2 = .ok (.iconst 0, 1) := by decide +kernel
theorem dX3_isUnder_3 : decode cX3_isUnder 3 = .ok (.istore_n 3, 1) := by decide +kernel
theorem dX3_isUnder_4 : decode cX3_isUnder 4 = .ok (.iload_n 3, 1) := by decide +kernel
theorem dX3_isUnder_5 : decode cX3_isUnder 5 = .ok (.bipush 8, 2) := by decide +kernel
theorem dX3_isUnder_7 : decode cX3_isUnder 7 = .ok (.if_icmp .ge 26, 3) := by decide +kernel
theorem dX3_isUnder_10 : decode cX3_isUnder 10 = .ok (.iload_n 2, 1) := by decide +kernel
theorem dX3_isUnder_11 : decode cX3_isUnder 11 = .ok (.ifCond .lt 22, 3) := by decide +kernel
theorem dX3_isUnder_14 : decode cX3_isUnder 14 = .ok (.iload_n 2, 1) := by decide +kernel
theorem dX3_isUnder_15 : decode cX3_isUnder 15 = .ok (.iload_n 1, 1) := by decide +kernel
theorem dX3_isUnder_16 : decode cX3_isUnder 16 = .ok (.if_icmp .ne 5, 3) := by decide +kernel
theorem dX3_isUnder_19 : decode cX3_isUnder 19 = .ok (.iconst 1, 1) := by decide +kernel
theorem dX3_isUnder_20 : decode cX3_isUnder 20 = .ok (.ireturn, 1) := by decide +kernel
theorem dX3_isUnder_21 : decode cX3_isUnder 21 = .ok (.getstatic 20, 3) := by decide +kernel
theorem dX3_isUnder_24 : decode cX3_isUnder 24 = .ok (.iload_n 2, 1) := by decide +kernel
theorem dX3_isUnder_25 : decode cX3_isUnder 25 = .ok (.iaload, 1) := by decide +kernel
theorem dX3_isUnder_26 : decode cX3_isUnder 26 = .ok (.istore_n 2, 1) := by decide +kernel
theorem dX3_isUnder_27 : decode cX3_isUnder 27 = .ok (.iinc 3 1, 3) := by decide +kernel
theorem dX3_isUnder_30 : decode cX3_isUnder 30 = .ok (.goto (-26), 3) := by decide +kernel
theorem dX3_isUnder_33 : decode cX3_isUnder 33 = .ok (.iconst 0, 1) := by decide +kernel
theorem dX3_isUnder_34 : decode cX3_isUnder 34 = .ok (.ireturn, 1) := by decide +kernel
def fX3_isUnder_b4 : Nat → Int32 → Int32 → Int32 → mS → Option Int32
  | 0, _, _, _, _ => none
  | k + 1, y1, y2, y3, s =>
    if (nI 8) ≤ y3 then
      some (nI 0)
    else
      if y2 < 0 then
        some (nI 0)
      else
        if y2 = y1 then
          some (nI 1)
        else
          ldR roAbove 8 y2 fun v3 =>
          bnd v3 fun v4 =>
          bnd (y3 + (nI 1)) fun v5 =>
          fX3_isUnder_b4 k y1 v4 v5 s

def fX3_isUnder (x0 : Int32) (x1 : Int32) (s : mS) : Option Int32 :=
  bnd x0 fun v1 =>
  bnd (nI 0) fun v2 =>
  fX3_isUnder_b4 mFu x1 v1 v2 s

set_option maxRecDepth 20000 in
theorem wX3_isUnder_b4 {ρ : mRo} {d : Nat} {P : mPo} {V : mS → List mE} (hV : mView LC V) (hr : mRoC ρ)  {res : Int32} {s : mS} (hP : P (some (.int res)) (V s)) : ∀ (k : Nat) (y1 : Int32) (y2 : Int32) (y3 : Int32), fX3_isUnder_b4 k y1 y2 y3 s = some res → mG ρ (mC ρ d) 3 4 cX3_isUnder (some .boolean) P 4 [(1, .int y1), (2, .int y2), (3, .int y3)] [] (V s) := by
  intro k
  induction k with
  | zero => intro y1 y2 y3 hf; rw [fX3_isUnder_b4] at hf; cases hf
  | succ k ih =>
    intro y1 y2 y3 hf
    rw [fX3_isUnder_b4] at hf
    refine e_iload_n 2 dX3_isUnder_4 rfl rfl ?_
    refine e_bipush (w := (nI 8)) dX3_isUnder_5 (by decide) ?_
    refine e_icmp_ge 33 dX3_isUnder_7 (by decide) hf (fun hf => ?_) (fun hf => ?_)
    · refine e_iconst (w := (nI 0)) dX3_isUnder_33 (by decide) ?_
      obtain rfl := Option.some.inj hf
      exact e_iret dX3_isUnder_34 (Or.inl rfl) hP
    · refine e_iload_n 1 dX3_isUnder_10 rfl rfl ?_
      refine e_if_lt 33 dX3_isUnder_11 (by decide) hf (fun hf => ?_) (fun hf => ?_)
      · refine e_iconst (w := (nI 0)) dX3_isUnder_33 (by decide) ?_
        obtain rfl := Option.some.inj hf
        exact e_iret dX3_isUnder_34 (Or.inl rfl) hP
      · refine e_iload_n 1 dX3_isUnder_14 rfl rfl ?_
        refine e_iload_n 0 dX3_isUnder_15 rfl rfl ?_
        refine e_icmp_ne 21 dX3_isUnder_16 (by decide) hf (fun hf => ?_) (fun hf => ?_)
        · refine e_gets dX3_isUnder_21 rfl ?_
          refine e_iload_n 1 dX3_isUnder_24 rfl rfl ?_
          refine e_rald dX3_isUnder_25 hr.2 hf (fun v3 hf => ?_)
          refine e_istore_n dX3_isUnder_26 rfl (by decide) hf (fun v4 hf => ?_)
          refine e_iinc 2 dX3_isUnder_27 (by decide) rfl hf (fun v5 hf => ?_)
          refine e_goto 4 dX3_isUnder_30 (by decide) ?_
          refine e_pick [2, 1, 0] rfl ?_
          exact ih y1 v4 v5 hf
        · refine e_iconst (w := (nI 1)) dX3_isUnder_19 (by decide) ?_
          obtain rfl := Option.some.inj hf
          exact e_iret dX3_isUnder_20 (Or.inr rfl) hP
set_option maxRecDepth 20000 in
theorem tX3_isUnder {ρ : mRo} {d : Nat} {P : mPo} {V : mS → List mE} (hV : mView LC V) (hr : mRoC ρ)  {x0 : Int32} {x1 : Int32} {s : mS} {res : Int32} (hf : fX3_isUnder x0 x1 s = some res) (hP : P (some (.int res)) (V s)) : mC ρ (d + 1) 14 [.int x0, .int x1] (V s) P := by
  refine ⟨_, rfl, Nat.le_of_ble_eq_true rfl, by decide, ?_⟩
  show mG ρ (mC ρ d) 3 4 cX3_isUnder (some .boolean) P 0 [(0, .int x0), (1, .int x1)] [] (V s)
  unfold fX3_isUnder at hf
  refine e_iload_n 0 dX3_isUnder_0 rfl rfl ?_
  refine e_istore_n dX3_isUnder_1 rfl (by decide) hf (fun v1 hf => ?_)
  refine e_iconst (w := (nI 0)) dX3_isUnder_2 (by decide) ?_
  refine e_istore_n dX3_isUnder_3 rfl (by decide) hf (fun v2 hf => ?_)
  refine e_pick [3, 1, 0] rfl ?_
  exact wX3_isUnder_b4 hV hr hP mFu x1 v1 v2 hf

theorem dX3_note_0 : decode cX3_note 0 = .ok (.aload_n 0, 1) := by decide +kernel
theorem dX3_note_1 : decode cX3_note 1 = .ok (.getfield 23, 3) := by decide +kernel
theorem dX3_note_4 : decode cX3_note 4 = .ok (.bipush 24, 2) := by decide +kernel
theorem dX3_note_6 : decode cX3_note 6 = .ok (.if_icmp .ge 13, 3) := by decide +kernel
theorem dX3_note_9 : decode cX3_note 9 = .ok (.aload_n 0, 1) := by decide +kernel
theorem dX3_note_10 : decode cX3_note 10 = .ok (.getfield 13, 3) := by decide +kernel
theorem dX3_note_13 : decode cX3_note 13 = .ok (.aload_n 0, 1) := by decide +kernel
theorem dX3_note_14 : decode cX3_note 14 = .ok (.getfield 23, 3) := by decide +kernel
theorem dX3_note_17 : decode cX3_note 17 = .ok (.iload_n 1, 1) := by decide +kernel
theorem dX3_note_18 : decode cX3_note 18 = .ok (.iastore, 1) := by decide +kernel
theorem dX3_note_19 : decode cX3_note 19 = .ok (.aload_n 0, 1) := by decide +kernel
theorem dX3_note_20 : decode cX3_note 20 = .ok (.dup, 1) := by decide +kernel
theorem dX3_note_21 : decode cX3_note 21 = .ok (.getfield 23, 3) := by decide +kernel
theorem dX3_note_24 : decode cX3_note 24 = .ok (.iconst 1, 1) := by decide +kernel
theorem dX3_note_25 : decode cX3_note 25 = .ok (.iadd, 1) := by decide +kernel
theorem dX3_note_26 : decode cX3_note 26 = .ok (.putfield 23, 3) := by decide +kernel
theorem dX3_note_29 : decode cX3_note 29 = .ok (.return_, 1) := by decide +kernel
def fX3_note_b19 (s : mS) : Option mS :=
  bnd (pI s iU_ran ((gI s iU_ran) + (nI 1))) fun s1 =>
  some s1

def fX3_note (x1 : Int32) (s : mS) : Option mS :=
  if (nI 24) ≤ (gI s iU_ran) then
    fX3_note_b19 s
  else
    stA s aU_traced 24 (gI s iU_ran) x1 fun s2 =>
    fX3_note_b19 s2

set_option maxRecDepth 20000 in
theorem wX3_note_b19 {ρ : mRo} {d : Nat} {P : mPo} {V : mS → List mE} (hV : mView LC V)  {res : mS} (hP : P none (V res)) (s : mS) (hf : fX3_note_b19 s = some res) : mG ρ (mC ρ d) 3 2 cX3_note none P 19 [(0, .ref qU)] [] (V s) := by
  unfold fX3_note_b19 at hf
  refine e_aload_n 0 dX3_note_19 rfl rfl ?_
  refine e_dup dX3_note_20 rfl ?_
  refine e_geti hV dX3_note_21 rfl lc_U rfl ?_
  refine e_iconst (w := (nI 1)) dX3_note_24 (by decide) ?_
  refine e_iadd dX3_note_25 ?_
  refine e_puti hV dX3_note_26 rfl rfl rfl (Or.inl rfl) lc_U rfl hf (fun s1 hf => ?_)
  obtain rfl := Option.some.inj hf
  exact e_ret dX3_note_29 rfl hP
set_option maxRecDepth 20000 in
theorem tX3_note {ρ : mRo} {d : Nat} {P : mPo} {V : mS → List mE} (hV : mView LC V)  {x1 : Int32} {s : mS} {res : mS} (hf : fX3_note x1 s = some res) (hP : P none (V res)) : mC ρ (d + 1) 15 [.ref qU, .int x1] (V s) P := by
  refine ⟨_, rfl, Nat.le_of_ble_eq_true rfl, by decide, ?_⟩
  show mG ρ (mC ρ d) 3 2 cX3_note none P 0 [(0, .ref qU), (1, .int x1)] [] (V s)
  unfold fX3_note at hf
  refine e_aload_n 0 dX3_note_0 rfl rfl ?_
  refine e_geti hV dX3_note_1 rfl lc_U rfl ?_
  refine e_bipush (w := (nI 24)) dX3_note_4 (by decide) ?_
  refine e_icmp_ge 19 dX3_note_6 (by decide) hf (fun hf => ?_) (fun hf => ?_)
  · refine e_pick [0] rfl ?_
    exact wX3_note_b19 hV hP s hf
  · refine e_aload_n 0 dX3_note_9 rfl rfl ?_
    refine e_getr hV dX3_note_10 rfl lc_U rfl ?_
    refine e_aload_n 0 dX3_note_13 rfl rfl ?_
    refine e_geti hV dX3_note_14 rfl lc_U rfl ?_
    refine e_iload_n 1 dX3_note_17 rfl rfl ?_
    refine e_iast hV dX3_note_18 lc_U_traced hf (fun s2 hf => ?_)
    refine e_pick [0] rfl ?_
    exact wX3_note_b19 hV hP s2 hf

theorem dX3_own_0 : decode cX3_own 0 = .ok (.aload_n 0, 1) := by decide +kernel
theorem dX3_own_1 : decode cX3_own 1 = .ok (.iload_n 1, 1) := by decide +kernel
theorem dX3_own_2 : decode cX3_own 2 = .ok (.aload_n 0, 1) := by decide +kernel
theorem dX3_own_3 : decode cX3_own 3 = .ok (.getfield 9, 3) := by decide +kernel
theorem dX3_own_6 : decode cX3_own 6 = .ok (.iload_n 1, 1) := by decide +kernel
theorem dX3_own_7 : decode cX3_own 7 = .ok (.iaload, 1) := by decide +kernel
theorem dX3_own_8 : decode cX3_own 8 = .ok (.iload_n 2, 1) := by decide +kernel
theorem dX3_own_9 : decode cX3_own 9 = .ok (.iload_n 3, 1) := by decide +kernel
theorem dX3_own_10 : decode cX3_own 10 = .ok (.iload 4, 2) := by decide +kernel
theorem dX3_own_12 : decode cX3_own 12 = .ok (.iconst 1, 1) := by decide +kernel
theorem dX3_own_13 : decode cX3_own 13 = .ok (.iadd, 1) := by decide +kernel
theorem dX3_own_14 : decode cX3_own 14 = .ok (.invokevirtual 41, 3) := by decide +kernel
theorem dX3_own_17 : decode cX3_own 17 = .ok (.ireturn, 1) := by decide +kernel
def gX3_own (R0 : Int32 → Int32 → Int32 → Int32 → Int32 → mS → Option (Int32 × mS)) (R1 : Int32 → Int32 → Int32 → Int32 → mS → Option (Int32 × mS)) (R2 : Int32 → Int32 → Int32 → Int32 → mS → Option (Int32 × mS)) (R3 : Int32 → Int32 → Int32 → Int32 → Int32 → mS → Option (Int32 × mS)) (x1 : Int32) (x2 : Int32) (x3 : Int32) (x4 : Int32) (s : mS) : Option (Int32 × mS) :=
  ldA s aU_kinds 50 x1 fun v1 =>
  bP (R0 x1 v1 x2 x3 (x4 + (nI 1)) s) fun r2 s3 =>
  some (r2, s3)

set_option maxRecDepth 20000 in
theorem uX3_own {ρ : mRo} {n d : Nat} {P : mPo} {V : mS → List mE} (hV : mView LC V) (hr : mRoC ρ) {R0 : Int32 → Int32 → Int32 → Int32 → Int32 → mS → Option (Int32 × mS)} (hR0 : ∀ {x1 x2 x3 x4 x5 : Int32} {s : mS} {res : (Int32 × mS)} {Q : mPo}, R0 x1 x2 x3 x4 x5 s = some res → Q (some (.int res.1)) (V res.2) → mC ρ (n + d + 1) 16 [.ref qU, .int x1, .int x2, .int x3, .int x4, .int x5] (V s) Q) {R1 : Int32 → Int32 → Int32 → Int32 → mS → Option (Int32 × mS)} (hR1 : ∀ {x1 x2 x3 x4 : Int32} {s : mS} {res : (Int32 × mS)} {Q : mPo}, R1 x1 x2 x3 x4 s = some res → Q (some (.int res.1)) (V res.2) → mC ρ (n + d + 1) 17 [.ref qU, .int x1, .int x2, .int x3, .int x4] (V s) Q) {R2 : Int32 → Int32 → Int32 → Int32 → mS → Option (Int32 × mS)} (hR2 : ∀ {x1 x2 x3 x4 : Int32} {s : mS} {res : (Int32 × mS)} {Q : mPo}, R2 x1 x2 x3 x4 s = some res → Q (some (.int res.1)) (V res.2) → mC ρ (n + d + 1) 18 [.ref qU, .int x1, .int x2, .int x3, .int x4] (V s) Q) {R3 : Int32 → Int32 → Int32 → Int32 → Int32 → mS → Option (Int32 × mS)} (hR3 : ∀ {x1 x2 x3 x4 x5 : Int32} {s : mS} {res : (Int32 × mS)} {Q : mPo}, R3 x1 x2 x3 x4 x5 s = some res → Q (some (.int res.1)) (V res.2) → mC ρ (n + d + 1) 19 [.ref qU, .int x1, .int x2, .int x3, .int x4, .int x5] (V s) Q)  {x1 : Int32} {x2 : Int32} {x3 : Int32} {x4 : Int32} {s : mS} {res : (Int32 × mS)} (hf : gX3_own R0 R1 R2 R3 x1 x2 x3 x4 s = some res) (hP : P (some (.int res.1)) (V res.2)) : mC ρ (n + d + 1 + 1) 17 [.ref qU, .int x1, .int x2, .int x3, .int x4] (V s) P := by
  refine ⟨_, rfl, Nat.le_of_ble_eq_true rfl, by decide, ?_⟩
  show mG ρ (mC ρ (n + d + 1)) 3 5 cX3_own (some .int) P 0 [(0, .ref qU), (1, .int x1), (2, .int x2), (3, .int x3), (4, .int x4)] [] (V s)
  unfold gX3_own at hf
  refine e_aload_n 0 dX3_own_0 rfl rfl ?_
  refine e_iload_n 1 dX3_own_1 rfl rfl ?_
  refine e_aload_n 0 dX3_own_2 rfl rfl ?_
  refine e_getr hV dX3_own_3 rfl lc_U rfl ?_
  refine e_iload_n 1 dX3_own_6 rfl rfl ?_
  refine e_iald hV dX3_own_7 lc_U_kinds hf (fun v1 hf => ?_)
  refine e_iload_n 2 dX3_own_8 rfl rfl ?_
  refine e_iload_n 3 dX3_own_9 rfl rfl ?_
  refine e_iload 4 dX3_own_10 rfl ?_
  refine e_iconst (w := (nI 1)) dX3_own_12 (by decide) ?_
  refine e_iadd dX3_own_13 ?_
  obtain ⟨r2, s3, hg, hf⟩ := bP_some hf
  refine e_callV (as := [.int x1, .int v1, .int x2, .int x3, .int (x4 + (nI 1))]) (v := (some (.int r2))) (s' := s3) hV dX3_own_14 (Or.inl rfl) rfl rfl rfl rfl (Nat.le_of_ble_eq_true rfl) lc_U rfl rfl (fun Q hQ => hR0 hg hQ) ?_
  obtain rfl := Option.some.inj hf
  exact e_iret dX3_own_17 trivial hP

theorem dX3_runGhost_0 : decode cX3_runGhost 0 = .ok (.iload_n 1, 1) := by decide +kernel
theorem dX3_runGhost_1 : decode cX3_runGhost 1 = .ok (.lookupswitch 71 #[(1, 35), (2, 39), (10, 59)], 35) := by decide +kernel
theorem dX3_runGhost_36 : decode cX3_runGhost 36 = .ok (.iload_n 3, 1) := by decide +kernel
theorem dX3_runGhost_37 : decode cX3_runGhost 37 = .ok (.iload_n 2, 1) := by decide +kernel
theorem dX3_runGhost_38 : decode cX3_runGhost 38 = .ok (.iadd, 1) := by decide +kernel
theorem dX3_runGhost_39 : decode cX3_runGhost 39 = .ok (.ireturn, 1) := by decide +kernel
theorem dX3_runGhost_40 : decode cX3_runGhost 40 = .ok (.aload_n 0, 1) := by decide +kernel
theorem dX3_runGhost_41 : decode cX3_runGhost 41 = .ok (.iload_n 2, 1) := by decide +kernel
theorem dX3_runGhost_42 : decode cX3_runGhost 42 = .ok (.iconst 1, 1) := by decide +kernel
theorem dX3_runGhost_43 : decode cX3_runGhost 43 = .ok (.iload_n 3, 1) := by decide +kernel
theorem dX3_runGhost_44 : decode cX3_runGhost 44 = .ok (.iload 4, 2) := by decide +kernel
theorem dX3_runGhost_46 : decode cX3_runGhost 46 = .ok (.invokevirtual 44, 3) := by decide +kernel
theorem dX3_runGhost_49 : decode cX3_runGhost 49 = .ok (.aload_n 0, 1) := by decide +kernel
theorem dX3_runGhost_50 : decode cX3_runGhost 50 = .ok (.iload_n 2, 1) := by decide +kernel
theorem dX3_runGhost_51 : decode cX3_runGhost 51 = .ok (.iconst 2, 1) := by decide +kernel
theorem dX3_runGhost_52 : decode cX3_runGhost 52 = .ok (.iconst 1, 1) := by decide +kernel
theorem dX3_runGhost_53 : decode cX3_runGhost 53 = .ok (.iload 4, 2) := by decide +kernel
theorem dX3_runGhost_55 : decode cX3_runGhost 55 = .ok (.invokevirtual 44, 3) := by decide +kernel
theorem dX3_runGhost_58 : decode cX3_runGhost 58 = .ok (.isub, 1) := by decide +kernel
theorem dX3_runGhost_59 : decode cX3_runGhost 59 = .ok (.ireturn, 1) := by decide +kernel
theorem dX3_runGhost_60 : decode cX3_runGhost 60 = .ok (.aload_n 0, 1) := by decide +kernel
theorem dX3_runGhost_61 : decode cX3_runGhost 61 = .ok (.iload_n 2, 1) := by decide +kernel
theorem dX3_runGhost_62 : decode cX3_runGhost 62 = .ok (.iconst 0, 1) := by decide +kernel
theorem dX3_runGhost_63 : decode cX3_runGhost 63 = .ok (.iload_n 3, 1) := by decide +kernel
theorem dX3_runGhost_64 : decode cX3_runGhost 64 = .ok (.iload 4, 2) := by decide +kernel
theorem dX3_runGhost_66 : decode cX3_runGhost 66 = .ok (.invokevirtual 44, 3) := by decide +kernel
theorem dX3_runGhost_69 : decode cX3_runGhost 69 = .ok (.iconst 2, 1) := by decide +kernel
theorem dX3_runGhost_70 : decode cX3_runGhost 70 = .ok (.imul, 1) := by decide +kernel
theorem dX3_runGhost_71 : decode cX3_runGhost 71 = .ok (.ireturn, 1) := by decide +kernel
theorem dX3_runGhost_72 : decode cX3_runGhost 72 = .ok (.iload_n 3, 1) := by decide +kernel
theorem dX3_runGhost_73 : decode cX3_runGhost 73 = .ok (.iload_n 2, 1) := by decide +kernel
theorem dX3_runGhost_74 : decode cX3_runGhost 74 = .ok (.ixor, 1) := by decide +kernel
theorem dX3_runGhost_75 : decode cX3_runGhost 75 = .ok (.ireturn, 1) := by decide +kernel
def gX3_runGhost (R0 : Int32 → Int32 → Int32 → Int32 → Int32 → mS → Option (Int32 × mS)) (R1 : Int32 → Int32 → Int32 → Int32 → mS → Option (Int32 × mS)) (R2 : Int32 → Int32 → Int32 → Int32 → mS → Option (Int32 × mS)) (R3 : Int32 → Int32 → Int32 → Int32 → Int32 → mS → Option (Int32 × mS)) (x1 : Int32) (x2 : Int32) (x3 : Int32) (x4 : Int32) (s : mS) : Option (Int32 × mS) :=
  if x1 = (nI 1) then
    some (x3 + x2, s)
  else if x1 = (nI 2) then
    bP (R1 x2 (nI 1) x3 x4 s) fun r1 s2 =>
    bP (R1 x2 (nI 2) (nI 1) x4 s2) fun r3 s4 =>
    some (r1 - r3, s4)
  else if x1 = (nI 10) then
    bP (R1 x2 (nI 0) x3 x4 s) fun r5 s6 =>
    some (r5 * (nI 2), s6)
  else
    some (x3 ^^^ x2, s)

set_option maxRecDepth 20000 in
theorem uX3_runGhost {ρ : mRo} {n d : Nat} {P : mPo} {V : mS → List mE} (hV : mView LC V) (hr : mRoC ρ) {R0 : Int32 → Int32 → Int32 → Int32 → Int32 → mS → Option (Int32 × mS)} (hR0 : ∀ {x1 x2 x3 x4 x5 : Int32} {s : mS} {res : (Int32 × mS)} {Q : mPo}, R0 x1 x2 x3 x4 x5 s = some res → Q (some (.int res.1)) (V res.2) → mC ρ (n + d + 1) 16 [.ref qU, .int x1, .int x2, .int x3, .int x4, .int x5] (V s) Q) {R1 : Int32 → Int32 → Int32 → Int32 → mS → Option (Int32 × mS)} (hR1 : ∀ {x1 x2 x3 x4 : Int32} {s : mS} {res : (Int32 × mS)} {Q : mPo}, R1 x1 x2 x3 x4 s = some res → Q (some (.int res.1)) (V res.2) → mC ρ (n + d + 1) 17 [.ref qU, .int x1, .int x2, .int x3, .int x4] (V s) Q) {R2 : Int32 → Int32 → Int32 → Int32 → mS → Option (Int32 × mS)} (hR2 : ∀ {x1 x2 x3 x4 : Int32} {s : mS} {res : (Int32 × mS)} {Q : mPo}, R2 x1 x2 x3 x4 s = some res → Q (some (.int res.1)) (V res.2) → mC ρ (n + d + 1) 18 [.ref qU, .int x1, .int x2, .int x3, .int x4] (V s) Q) {R3 : Int32 → Int32 → Int32 → Int32 → Int32 → mS → Option (Int32 × mS)} (hR3 : ∀ {x1 x2 x3 x4 x5 : Int32} {s : mS} {res : (Int32 × mS)} {Q : mPo}, R3 x1 x2 x3 x4 x5 s = some res → Q (some (.int res.1)) (V res.2) → mC ρ (n + d + 1) 19 [.ref qU, .int x1, .int x2, .int x3, .int x4, .int x5] (V s) Q)  {x1 : Int32} {x2 : Int32} {x3 : Int32} {x4 : Int32} {s : mS} {res : (Int32 × mS)} (hf : gX3_runGhost R0 R1 R2 R3 x1 x2 x3 x4 s = some res) (hP : P (some (.int res.1)) (V res.2)) : mC ρ (n + d + 1 + 1) 18 [.ref qU, .int x1, .int x2, .int x3, .int x4] (V s) P := by
  refine ⟨_, rfl, Nat.le_of_ble_eq_true rfl, by decide, ?_⟩
  show mG ρ (mC ρ (n + d + 1)) 3 5 cX3_runGhost (some .int) P 0 [(0, .ref qU), (1, .int x1), (2, .int x2), (3, .int x3), (4, .int x4)] [] (V s)
  unfold gX3_runGhost at hf
  refine e_iload_n 1 dX3_runGhost_0 rfl rfl ?_
  by_cases hc1 : x1 = (nI 1)
  · rw [if_pos hc1] at hf
    refine e_look (tgt := 36) (w := (nI 1)) dX3_runGhost_1 hc1 (by decide) (by decide) ?_
    refine e_iload_n 3 dX3_runGhost_36 rfl rfl ?_
    refine e_iload_n 2 dX3_runGhost_37 rfl rfl ?_
    refine e_iadd dX3_runGhost_38 ?_
    obtain rfl := Option.some.inj hf
    exact e_iret dX3_runGhost_39 trivial hP
  rw [if_neg hc1] at hf
  by_cases hc2 : x1 = (nI 2)
  · rw [if_pos hc2] at hf
    refine e_look (tgt := 40) (w := (nI 2)) dX3_runGhost_1 hc2 (by decide) (by decide) ?_
    refine e_aload_n 0 dX3_runGhost_40 rfl rfl ?_
    refine e_iload_n 2 dX3_runGhost_41 rfl rfl ?_
    refine e_iconst (w := (nI 1)) dX3_runGhost_42 (by decide) ?_
    refine e_iload_n 3 dX3_runGhost_43 rfl rfl ?_
    refine e_iload 4 dX3_runGhost_44 rfl ?_
    obtain ⟨r1, s2, hg, hf⟩ := bP_some hf
    refine e_callV (as := [.int x2, .int (nI 1), .int x3, .int x4]) (v := (some (.int r1))) (s' := s2) hV dX3_runGhost_46 (Or.inl rfl) rfl rfl rfl rfl (Nat.le_of_ble_eq_true rfl) lc_U rfl rfl (fun Q hQ => hR1 hg hQ) ?_
    refine e_aload_n 0 dX3_runGhost_49 rfl rfl ?_
    refine e_iload_n 2 dX3_runGhost_50 rfl rfl ?_
    refine e_iconst (w := (nI 2)) dX3_runGhost_51 (by decide) ?_
    refine e_iconst (w := (nI 1)) dX3_runGhost_52 (by decide) ?_
    refine e_iload 4 dX3_runGhost_53 rfl ?_
    obtain ⟨r3, s4, hg, hf⟩ := bP_some hf
    refine e_callV (as := [.int x2, .int (nI 2), .int (nI 1), .int x4]) (v := (some (.int r3))) (s' := s4) hV dX3_runGhost_55 (Or.inl rfl) rfl rfl rfl rfl (Nat.le_of_ble_eq_true rfl) lc_U rfl rfl (fun Q hQ => hR1 hg hQ) ?_
    refine e_isub dX3_runGhost_58 ?_
    obtain rfl := Option.some.inj hf
    exact e_iret dX3_runGhost_59 trivial hP
  rw [if_neg hc2] at hf
  by_cases hc10 : x1 = (nI 10)
  · rw [if_pos hc10] at hf
    refine e_look (tgt := 60) (w := (nI 10)) dX3_runGhost_1 hc10 (by decide) (by decide) ?_
    refine e_aload_n 0 dX3_runGhost_60 rfl rfl ?_
    refine e_iload_n 2 dX3_runGhost_61 rfl rfl ?_
    refine e_iconst (w := (nI 0)) dX3_runGhost_62 (by decide) ?_
    refine e_iload_n 3 dX3_runGhost_63 rfl rfl ?_
    refine e_iload 4 dX3_runGhost_64 rfl ?_
    obtain ⟨r5, s6, hg, hf⟩ := bP_some hf
    refine e_callV (as := [.int x2, .int (nI 0), .int x3, .int x4]) (v := (some (.int r5))) (s' := s6) hV dX3_runGhost_66 (Or.inl rfl) rfl rfl rfl rfl (Nat.le_of_ble_eq_true rfl) lc_U rfl rfl (fun Q hQ => hR1 hg hQ) ?_
    refine e_iconst (w := (nI 2)) dX3_runGhost_69 (by decide) ?_
    refine e_imul dX3_runGhost_70 ?_
    obtain rfl := Option.some.inj hf
    exact e_iret dX3_runGhost_71 trivial hP
  rw [if_neg hc10] at hf
  refine e_lookD (tgt := 72) (ks := [(nI 1), (nI 2), (nI 10)]) dX3_runGhost_1 (by decide) (by decide) (fun z hz => ?_) ?_
  · simp only [List.mem_cons, List.not_mem_nil, or_false] at hz
    rcases hz with rfl | rfl | rfl
    · exact hc1
    · exact hc2
    · exact hc10
  refine e_iload_n 3 dX3_runGhost_72 rfl rfl ?_
  refine e_iload_n 2 dX3_runGhost_73 rfl rfl ?_
  refine e_ixor dX3_runGhost_74 ?_
  obtain rfl := Option.some.inj hf
  exact e_iret dX3_runGhost_75 trivial hP

theorem dX3_runUnder_0 : decode cX3_runUnder 0 = .ok (.iload_n 1, 1) := by decide +kernel
theorem dX3_runUnder_1 : decode cX3_runUnder 1 = .ok (.lookupswitch 218 #[(20, 75), (30, 91), (40, 106), (41, 122), (50, 138), (60, 162), (70, 178), (80, 194)], 75) := by decide +kernel
theorem dX3_runUnder_76 : decode cX3_runUnder 76 = .ok (.aload_n 0, 1) := by decide +kernel
theorem dX3_runUnder_77 : decode cX3_runUnder 77 = .ok (.iload_n 2, 1) := by decide +kernel
theorem dX3_runUnder_78 : decode cX3_runUnder 78 = .ok (.iload 5, 2) := by decide +kernel
theorem dX3_runUnder_80 : decode cX3_runUnder 80 = .ok (.iconst 0, 1) := by decide +kernel
theorem dX3_runUnder_81 : decode cX3_runUnder 81 = .ok (.iload_n 3, 1) := by decide +kernel
theorem dX3_runUnder_82 : decode cX3_runUnder 82 = .ok (.iload 4, 2) := by decide +kernel
theorem dX3_runUnder_84 : decode cX3_runUnder 84 = .ok (.iconst 1, 1) := by decide +kernel
theorem dX3_runUnder_85 : decode cX3_runUnder 85 = .ok (.iadd, 1) := by decide +kernel
theorem dX3_runUnder_86 : decode cX3_runUnder 86 = .ok (.invokevirtual 41, 3) := by decide +kernel
theorem dX3_runUnder_89 : decode cX3_runUnder 89 = .ok (.iconst 3, 1) := by decide +kernel
theorem dX3_runUnder_90 : decode cX3_runUnder 90 = .ok (.iadd, 1) := by decide +kernel
theorem dX3_runUnder_91 : decode cX3_runUnder 91 = .ok (.ireturn, 1) := by decide +kernel
theorem dX3_runUnder_92 : decode cX3_runUnder 92 = .ok (.aload_n 0, 1) := by decide +kernel
theorem dX3_runUnder_93 : decode cX3_runUnder 93 = .ok (.iload_n 2, 1) := by decide +kernel
theorem dX3_runUnder_94 : decode cX3_runUnder 94 = .ok (.iload 5, 2) := by decide +kernel
theorem dX3_runUnder_96 : decode cX3_runUnder 96 = .ok (.iconst 1, 1) := by decide +kernel
theorem dX3_runUnder_97 : decode cX3_runUnder 97 = .ok (.iload_n 3, 1) := by decide +kernel
theorem dX3_runUnder_98 : decode cX3_runUnder 98 = .ok (.iload 4, 2) := by decide +kernel
theorem dX3_runUnder_100 : decode cX3_runUnder 100 = .ok (.iconst 1, 1) := by decide +kernel
theorem dX3_runUnder_101 : decode cX3_runUnder 101 = .ok (.iadd, 1) := by decide +kernel
theorem dX3_runUnder_102 : decode cX3_runUnder 102 = .ok (.invokevirtual 41, 3) := by decide +kernel
theorem dX3_runUnder_105 : decode cX3_runUnder 105 = .ok (.ineg, 1) := by decide +kernel
theorem dX3_runUnder_106 : decode cX3_runUnder 106 = .ok (.ireturn, 1) := by decide +kernel
theorem dX3_runUnder_107 : decode cX3_runUnder 107 = .ok (.aload_n 0, 1) := by decide +kernel
theorem dX3_runUnder_108 : decode cX3_runUnder 108 = .ok (.iload_n 2, 1) := by decide +kernel
theorem dX3_runUnder_109 : decode cX3_runUnder 109 = .ok (.iload 5, 2) := by decide +kernel
theorem dX3_runUnder_111 : decode cX3_runUnder 111 = .ok (.iconst 2, 1) := by decide +kernel
theorem dX3_runUnder_112 : decode cX3_runUnder 112 = .ok (.iload_n 3, 1) := by decide +kernel
theorem dX3_runUnder_113 : decode cX3_runUnder 113 = .ok (.iload 4, 2) := by decide +kernel
theorem dX3_runUnder_115 : decode cX3_runUnder 115 = .ok (.iconst 1, 1) := by decide +kernel
theorem dX3_runUnder_116 : decode cX3_runUnder 116 = .ok (.iadd, 1) := by decide +kernel
theorem dX3_runUnder_117 : decode cX3_runUnder 117 = .ok (.invokevirtual 41, 3) := by decide +kernel
theorem dX3_runUnder_120 : decode cX3_runUnder 120 = .ok (.iconst 3, 1) := by decide +kernel
theorem dX3_runUnder_121 : decode cX3_runUnder 121 = .ok (.imul, 1) := by decide +kernel
theorem dX3_runUnder_122 : decode cX3_runUnder 122 = .ok (.ireturn, 1) := by decide +kernel
theorem dX3_runUnder_123 : decode cX3_runUnder 123 = .ok (.aload_n 0, 1) := by decide +kernel
theorem dX3_runUnder_124 : decode cX3_runUnder 124 = .ok (.iload_n 2, 1) := by decide +kernel
theorem dX3_runUnder_125 : decode cX3_runUnder 125 = .ok (.iload 5, 2) := by decide +kernel
theorem dX3_runUnder_127 : decode cX3_runUnder 127 = .ok (.iconst 1, 1) := by decide +kernel
theorem dX3_runUnder_128 : decode cX3_runUnder 128 = .ok (.iload_n 3, 1) := by decide +kernel
theorem dX3_runUnder_129 : decode cX3_runUnder 129 = .ok (.iconst 1, 1) := by decide +kernel
theorem dX3_runUnder_130 : decode cX3_runUnder 130 = .ok (.iadd, 1) := by decide +kernel
theorem dX3_runUnder_131 : decode cX3_runUnder 131 = .ok (.iload 4, 2) := by decide +kernel
theorem dX3_runUnder_133 : decode cX3_runUnder 133 = .ok (.iconst 1, 1) := by decide +kernel
theorem dX3_runUnder_134 : decode cX3_runUnder 134 = .ok (.iadd, 1) := by decide +kernel
theorem dX3_runUnder_135 : decode cX3_runUnder 135 = .ok (.invokevirtual 41, 3) := by decide +kernel
theorem dX3_runUnder_138 : decode cX3_runUnder 138 = .ok (.ireturn, 1) := by decide +kernel
theorem dX3_runUnder_139 : decode cX3_runUnder 139 = .ok (.aload_n 0, 1) := by decide +kernel
theorem dX3_runUnder_140 : decode cX3_runUnder 140 = .ok (.iload_n 2, 1) := by decide +kernel
theorem dX3_runUnder_141 : decode cX3_runUnder 141 = .ok (.iload 5, 2) := by decide +kernel
theorem dX3_runUnder_143 : decode cX3_runUnder 143 = .ok (.iconst 2, 1) := by decide +kernel
theorem dX3_runUnder_144 : decode cX3_runUnder 144 = .ok (.iload_n 3, 1) := by decide +kernel
theorem dX3_runUnder_145 : decode cX3_runUnder 145 = .ok (.iload 4, 2) := by decide +kernel
theorem dX3_runUnder_147 : decode cX3_runUnder 147 = .ok (.iconst 1, 1) := by decide +kernel
theorem dX3_runUnder_148 : decode cX3_runUnder 148 = .ok (.iadd, 1) := by decide +kernel
theorem dX3_runUnder_149 : decode cX3_runUnder 149 = .ok (.invokevirtual 41, 3) := by decide +kernel
theorem dX3_runUnder_152 : decode cX3_runUnder 152 = .ok (.aload_n 0, 1) := by decide +kernel
theorem dX3_runUnder_153 : decode cX3_runUnder 153 = .ok (.iload_n 2, 1) := by decide +kernel
theorem dX3_runUnder_154 : decode cX3_runUnder 154 = .ok (.iconst 0, 1) := by decide +kernel
theorem dX3_runUnder_155 : decode cX3_runUnder 155 = .ok (.iconst 2, 1) := by decide +kernel
theorem dX3_runUnder_156 : decode cX3_runUnder 156 = .ok (.iload 4, 2) := by decide +kernel
theorem dX3_runUnder_158 : decode cX3_runUnder 158 = .ok (.invokevirtual 44, 3) := by decide +kernel
theorem dX3_runUnder_161 : decode cX3_runUnder 161 = .ok (.isub, 1) := by decide +kernel
theorem dX3_runUnder_162 : decode cX3_runUnder 162 = .ok (.ireturn, 1) := by decide +kernel
theorem dX3_runUnder_163 : decode cX3_runUnder 163 = .ok (.aload_n 0, 1) := by decide +kernel
theorem dX3_runUnder_164 : decode cX3_runUnder 164 = .ok (.iload_n 2, 1) := by decide +kernel
theorem dX3_runUnder_165 : decode cX3_runUnder 165 = .ok (.iload 5, 2) := by decide +kernel
theorem dX3_runUnder_167 : decode cX3_runUnder 167 = .ok (.iconst 3, 1) := by decide +kernel
theorem dX3_runUnder_168 : decode cX3_runUnder 168 = .ok (.iload_n 3, 1) := by decide +kernel
theorem dX3_runUnder_169 : decode cX3_runUnder 169 = .ok (.iload 4, 2) := by decide +kernel
theorem dX3_runUnder_171 : decode cX3_runUnder 171 = .ok (.iconst 1, 1) := by decide +kernel
theorem dX3_runUnder_172 : decode cX3_runUnder 172 = .ok (.iadd, 1) := by decide +kernel
theorem dX3_runUnder_173 : decode cX3_runUnder 173 = .ok (.invokevirtual 41, 3) := by decide +kernel
theorem dX3_runUnder_176 : decode cX3_runUnder 176 = .ok (.iconst 5, 1) := by decide +kernel
theorem dX3_runUnder_177 : decode cX3_runUnder 177 = .ok (.ixor, 1) := by decide +kernel
theorem dX3_runUnder_178 : decode cX3_runUnder 178 = .ok (.ireturn, 1) := by decide +kernel
theorem dX3_runUnder_179 : decode cX3_runUnder 179 = .ok (.aload_n 0, 1) := by decide +kernel
theorem dX3_runUnder_180 : decode cX3_runUnder 180 = .ok (.iload_n 2, 1) := by decide +kernel
theorem dX3_runUnder_181 : decode cX3_runUnder 181 = .ok (.iload 5, 2) := by decide +kernel
theorem dX3_runUnder_183 : decode cX3_runUnder 183 = .ok (.iconst 0, 1) := by decide +kernel
theorem dX3_runUnder_184 : decode cX3_runUnder 184 = .ok (.iload_n 3, 1) := by decide +kernel
theorem dX3_runUnder_185 : decode cX3_runUnder 185 = .ok (.iload 4, 2) := by decide +kernel
theorem dX3_runUnder_187 : decode cX3_runUnder 187 = .ok (.iconst 1, 1) := by decide +kernel
theorem dX3_runUnder_188 : decode cX3_runUnder 188 = .ok (.iadd, 1) := by decide +kernel
theorem dX3_runUnder_189 : decode cX3_runUnder 189 = .ok (.invokevirtual 41, 3) := by decide +kernel
theorem dX3_runUnder_192 : decode cX3_runUnder 192 = .ok (.iconst 2, 1) := by decide +kernel
theorem dX3_runUnder_193 : decode cX3_runUnder 193 = .ok (.imul, 1) := by decide +kernel
theorem dX3_runUnder_194 : decode cX3_runUnder 194 = .ok (.ireturn, 1) := by decide +kernel
theorem dX3_runUnder_195 : decode cX3_runUnder 195 = .ok (.aload_n 0, 1) := by decide +kernel
theorem dX3_runUnder_196 : decode cX3_runUnder 196 = .ok (.iload_n 2, 1) := by decide +kernel
theorem dX3_runUnder_197 : decode cX3_runUnder 197 = .ok (.iload 5, 2) := by decide +kernel
theorem dX3_runUnder_199 : decode cX3_runUnder 199 = .ok (.iconst 1, 1) := by decide +kernel
theorem dX3_runUnder_200 : decode cX3_runUnder 200 = .ok (.iload_n 3, 1) := by decide +kernel
theorem dX3_runUnder_201 : decode cX3_runUnder 201 = .ok (.iload 4, 2) := by decide +kernel
theorem dX3_runUnder_203 : decode cX3_runUnder 203 = .ok (.iconst 1, 1) := by decide +kernel
theorem dX3_runUnder_204 : decode cX3_runUnder 204 = .ok (.iadd, 1) := by decide +kernel
theorem dX3_runUnder_205 : decode cX3_runUnder 205 = .ok (.invokevirtual 41, 3) := by decide +kernel
theorem dX3_runUnder_208 : decode cX3_runUnder 208 = .ok (.aload_n 0, 1) := by decide +kernel
theorem dX3_runUnder_209 : decode cX3_runUnder 209 = .ok (.iload_n 2, 1) := by decide +kernel
theorem dX3_runUnder_210 : decode cX3_runUnder 210 = .ok (.iconst 2, 1) := by decide +kernel
theorem dX3_runUnder_211 : decode cX3_runUnder 211 = .ok (.iconst 2, 1) := by decide +kernel
theorem dX3_runUnder_212 : decode cX3_runUnder 212 = .ok (.iload 4, 2) := by decide +kernel
theorem dX3_runUnder_214 : decode cX3_runUnder 214 = .ok (.invokevirtual 44, 3) := by decide +kernel
theorem dX3_runUnder_217 : decode cX3_runUnder 217 = .ok (.iadd, 1) := by decide +kernel
theorem dX3_runUnder_218 : decode cX3_runUnder 218 = .ok (.ireturn, 1) := by decide +kernel
theorem dX3_runUnder_219 : decode cX3_runUnder 219 = .ok (.aload_n 0, 1) := by decide +kernel
theorem dX3_runUnder_220 : decode cX3_runUnder 220 = .ok (.iload_n 2, 1) := by decide +kernel
theorem dX3_runUnder_221 : decode cX3_runUnder 221 = .ok (.iload 5, 2) := by decide +kernel
theorem dX3_runUnder_223 : decode cX3_runUnder 223 = .ok (.iconst 3, 1) := by decide +kernel
theorem dX3_runUnder_224 : decode cX3_runUnder 224 = .ok (.iload_n 3, 1) := by decide +kernel
theorem dX3_runUnder_225 : decode cX3_runUnder 225 = .ok (.iload 4, 2) := by decide +kernel
theorem dX3_runUnder_227 : decode cX3_runUnder 227 = .ok (.iconst 1, 1) := by decide +kernel
theorem dX3_runUnder_228 : decode cX3_runUnder 228 = .ok (.iadd, 1) := by decide +kernel
theorem dX3_runUnder_229 : decode cX3_runUnder 229 = .ok (.invokevirtual 41, 3) := by decide +kernel
theorem dX3_runUnder_232 : decode cX3_runUnder 232 = .ok (.iconst 1, 1) := by decide +kernel
theorem dX3_runUnder_233 : decode cX3_runUnder 233 = .ok (.isub, 1) := by decide +kernel
theorem dX3_runUnder_234 : decode cX3_runUnder 234 = .ok (.ireturn, 1) := by decide +kernel
def gX3_runUnder (R0 : Int32 → Int32 → Int32 → Int32 → Int32 → mS → Option (Int32 × mS)) (R1 : Int32 → Int32 → Int32 → Int32 → mS → Option (Int32 × mS)) (R2 : Int32 → Int32 → Int32 → Int32 → mS → Option (Int32 × mS)) (R3 : Int32 → Int32 → Int32 → Int32 → Int32 → mS → Option (Int32 × mS)) (x1 : Int32) (x2 : Int32) (x3 : Int32) (x4 : Int32) (x5 : Int32) (s : mS) : Option (Int32 × mS) :=
  if x1 = (nI 20) then
    bP (R0 x2 x5 (nI 0) x3 (x4 + (nI 1)) s) fun r1 s2 =>
    some (r1 + (nI 3), s2)
  else if x1 = (nI 30) then
    bP (R0 x2 x5 (nI 1) x3 (x4 + (nI 1)) s) fun r3 s4 =>
    some (-r3, s4)
  else if x1 = (nI 40) then
    bP (R0 x2 x5 (nI 2) x3 (x4 + (nI 1)) s) fun r5 s6 =>
    some (r5 * (nI 3), s6)
  else if x1 = (nI 41) then
    bP (R0 x2 x5 (nI 1) (x3 + (nI 1)) (x4 + (nI 1)) s) fun r7 s8 =>
    some (r7, s8)
  else if x1 = (nI 50) then
    bP (R0 x2 x5 (nI 2) x3 (x4 + (nI 1)) s) fun r9 s10 =>
    bP (R1 x2 (nI 0) (nI 2) x4 s10) fun r11 s12 =>
    some (r9 - r11, s12)
  else if x1 = (nI 60) then
    bP (R0 x2 x5 (nI 3) x3 (x4 + (nI 1)) s) fun r13 s14 =>
    some (r13 ^^^ (nI 5), s14)
  else if x1 = (nI 70) then
    bP (R0 x2 x5 (nI 0) x3 (x4 + (nI 1)) s) fun r15 s16 =>
    some (r15 * (nI 2), s16)
  else if x1 = (nI 80) then
    bP (R0 x2 x5 (nI 1) x3 (x4 + (nI 1)) s) fun r17 s18 =>
    bP (R1 x2 (nI 2) (nI 2) x4 s18) fun r19 s20 =>
    some (r17 + r19, s20)
  else
    bP (R0 x2 x5 (nI 3) x3 (x4 + (nI 1)) s) fun r21 s22 =>
    some (r21 - (nI 1), s22)

set_option maxRecDepth 20000 in
theorem uX3_runUnder {ρ : mRo} {n d : Nat} {P : mPo} {V : mS → List mE} (hV : mView LC V) (hr : mRoC ρ) {R0 : Int32 → Int32 → Int32 → Int32 → Int32 → mS → Option (Int32 × mS)} (hR0 : ∀ {x1 x2 x3 x4 x5 : Int32} {s : mS} {res : (Int32 × mS)} {Q : mPo}, R0 x1 x2 x3 x4 x5 s = some res → Q (some (.int res.1)) (V res.2) → mC ρ (n + d + 1) 16 [.ref qU, .int x1, .int x2, .int x3, .int x4, .int x5] (V s) Q) {R1 : Int32 → Int32 → Int32 → Int32 → mS → Option (Int32 × mS)} (hR1 : ∀ {x1 x2 x3 x4 : Int32} {s : mS} {res : (Int32 × mS)} {Q : mPo}, R1 x1 x2 x3 x4 s = some res → Q (some (.int res.1)) (V res.2) → mC ρ (n + d + 1) 17 [.ref qU, .int x1, .int x2, .int x3, .int x4] (V s) Q) {R2 : Int32 → Int32 → Int32 → Int32 → mS → Option (Int32 × mS)} (hR2 : ∀ {x1 x2 x3 x4 : Int32} {s : mS} {res : (Int32 × mS)} {Q : mPo}, R2 x1 x2 x3 x4 s = some res → Q (some (.int res.1)) (V res.2) → mC ρ (n + d + 1) 18 [.ref qU, .int x1, .int x2, .int x3, .int x4] (V s) Q) {R3 : Int32 → Int32 → Int32 → Int32 → Int32 → mS → Option (Int32 × mS)} (hR3 : ∀ {x1 x2 x3 x4 x5 : Int32} {s : mS} {res : (Int32 × mS)} {Q : mPo}, R3 x1 x2 x3 x4 x5 s = some res → Q (some (.int res.1)) (V res.2) → mC ρ (n + d + 1) 19 [.ref qU, .int x1, .int x2, .int x3, .int x4, .int x5] (V s) Q)  {x1 : Int32} {x2 : Int32} {x3 : Int32} {x4 : Int32} {x5 : Int32} {s : mS} {res : (Int32 × mS)} (hf : gX3_runUnder R0 R1 R2 R3 x1 x2 x3 x4 x5 s = some res) (hP : P (some (.int res.1)) (V res.2)) : mC ρ (n + d + 1 + 1) 19 [.ref qU, .int x1, .int x2, .int x3, .int x4, .int x5] (V s) P := by
  refine ⟨_, rfl, Nat.le_of_ble_eq_true rfl, by decide, ?_⟩
  show mG ρ (mC ρ (n + d + 1)) 3 6 cX3_runUnder (some .int) P 0 [(0, .ref qU), (1, .int x1), (2, .int x2), (3, .int x3), (4, .int x4), (5, .int x5)] [] (V s)
  unfold gX3_runUnder at hf
  refine e_iload_n 1 dX3_runUnder_0 rfl rfl ?_
  by_cases hc20 : x1 = (nI 20)
  · rw [if_pos hc20] at hf
    refine e_look (tgt := 76) (w := (nI 20)) dX3_runUnder_1 hc20 (by decide) (by decide) ?_
    refine e_aload_n 0 dX3_runUnder_76 rfl rfl ?_
    refine e_iload_n 2 dX3_runUnder_77 rfl rfl ?_
    refine e_iload 5 dX3_runUnder_78 rfl ?_
    refine e_iconst (w := (nI 0)) dX3_runUnder_80 (by decide) ?_
    refine e_iload_n 3 dX3_runUnder_81 rfl rfl ?_
    refine e_iload 4 dX3_runUnder_82 rfl ?_
    refine e_iconst (w := (nI 1)) dX3_runUnder_84 (by decide) ?_
    refine e_iadd dX3_runUnder_85 ?_
    obtain ⟨r1, s2, hg, hf⟩ := bP_some hf
    refine e_callV (as := [.int x2, .int x5, .int (nI 0), .int x3, .int (x4 + (nI 1))]) (v := (some (.int r1))) (s' := s2) hV dX3_runUnder_86 (Or.inl rfl) rfl rfl rfl rfl (Nat.le_of_ble_eq_true rfl) lc_U rfl rfl (fun Q hQ => hR0 hg hQ) ?_
    refine e_iconst (w := (nI 3)) dX3_runUnder_89 (by decide) ?_
    refine e_iadd dX3_runUnder_90 ?_
    obtain rfl := Option.some.inj hf
    exact e_iret dX3_runUnder_91 trivial hP
  rw [if_neg hc20] at hf
  by_cases hc30 : x1 = (nI 30)
  · rw [if_pos hc30] at hf
    refine e_look (tgt := 92) (w := (nI 30)) dX3_runUnder_1 hc30 (by decide) (by decide) ?_
    refine e_aload_n 0 dX3_runUnder_92 rfl rfl ?_
    refine e_iload_n 2 dX3_runUnder_93 rfl rfl ?_
    refine e_iload 5 dX3_runUnder_94 rfl ?_
    refine e_iconst (w := (nI 1)) dX3_runUnder_96 (by decide) ?_
    refine e_iload_n 3 dX3_runUnder_97 rfl rfl ?_
    refine e_iload 4 dX3_runUnder_98 rfl ?_
    refine e_iconst (w := (nI 1)) dX3_runUnder_100 (by decide) ?_
    refine e_iadd dX3_runUnder_101 ?_
    obtain ⟨r3, s4, hg, hf⟩ := bP_some hf
    refine e_callV (as := [.int x2, .int x5, .int (nI 1), .int x3, .int (x4 + (nI 1))]) (v := (some (.int r3))) (s' := s4) hV dX3_runUnder_102 (Or.inl rfl) rfl rfl rfl rfl (Nat.le_of_ble_eq_true rfl) lc_U rfl rfl (fun Q hQ => hR0 hg hQ) ?_
    refine e_ineg dX3_runUnder_105 ?_
    obtain rfl := Option.some.inj hf
    exact e_iret dX3_runUnder_106 trivial hP
  rw [if_neg hc30] at hf
  by_cases hc40 : x1 = (nI 40)
  · rw [if_pos hc40] at hf
    refine e_look (tgt := 107) (w := (nI 40)) dX3_runUnder_1 hc40 (by decide) (by decide) ?_
    refine e_aload_n 0 dX3_runUnder_107 rfl rfl ?_
    refine e_iload_n 2 dX3_runUnder_108 rfl rfl ?_
    refine e_iload 5 dX3_runUnder_109 rfl ?_
    refine e_iconst (w := (nI 2)) dX3_runUnder_111 (by decide) ?_
    refine e_iload_n 3 dX3_runUnder_112 rfl rfl ?_
    refine e_iload 4 dX3_runUnder_113 rfl ?_
    refine e_iconst (w := (nI 1)) dX3_runUnder_115 (by decide) ?_
    refine e_iadd dX3_runUnder_116 ?_
    obtain ⟨r5, s6, hg, hf⟩ := bP_some hf
    refine e_callV (as := [.int x2, .int x5, .int (nI 2), .int x3, .int (x4 + (nI 1))]) (v := (some (.int r5))) (s' := s6) hV dX3_runUnder_117 (Or.inl rfl) rfl rfl rfl rfl (Nat.le_of_ble_eq_true rfl) lc_U rfl rfl (fun Q hQ => hR0 hg hQ) ?_
    refine e_iconst (w := (nI 3)) dX3_runUnder_120 (by decide) ?_
    refine e_imul dX3_runUnder_121 ?_
    obtain rfl := Option.some.inj hf
    exact e_iret dX3_runUnder_122 trivial hP
  rw [if_neg hc40] at hf
  by_cases hc41 : x1 = (nI 41)
  · rw [if_pos hc41] at hf
    refine e_look (tgt := 123) (w := (nI 41)) dX3_runUnder_1 hc41 (by decide) (by decide) ?_
    refine e_aload_n 0 dX3_runUnder_123 rfl rfl ?_
    refine e_iload_n 2 dX3_runUnder_124 rfl rfl ?_
    refine e_iload 5 dX3_runUnder_125 rfl ?_
    refine e_iconst (w := (nI 1)) dX3_runUnder_127 (by decide) ?_
    refine e_iload_n 3 dX3_runUnder_128 rfl rfl ?_
    refine e_iconst (w := (nI 1)) dX3_runUnder_129 (by decide) ?_
    refine e_iadd dX3_runUnder_130 ?_
    refine e_iload 4 dX3_runUnder_131 rfl ?_
    refine e_iconst (w := (nI 1)) dX3_runUnder_133 (by decide) ?_
    refine e_iadd dX3_runUnder_134 ?_
    obtain ⟨r7, s8, hg, hf⟩ := bP_some hf
    refine e_callV (as := [.int x2, .int x5, .int (nI 1), .int (x3 + (nI 1)), .int (x4 + (nI 1))]) (v := (some (.int r7))) (s' := s8) hV dX3_runUnder_135 (Or.inl rfl) rfl rfl rfl rfl (Nat.le_of_ble_eq_true rfl) lc_U rfl rfl (fun Q hQ => hR0 hg hQ) ?_
    obtain rfl := Option.some.inj hf
    exact e_iret dX3_runUnder_138 trivial hP
  rw [if_neg hc41] at hf
  by_cases hc50 : x1 = (nI 50)
  · rw [if_pos hc50] at hf
    refine e_look (tgt := 139) (w := (nI 50)) dX3_runUnder_1 hc50 (by decide) (by decide) ?_
    refine e_aload_n 0 dX3_runUnder_139 rfl rfl ?_
    refine e_iload_n 2 dX3_runUnder_140 rfl rfl ?_
    refine e_iload 5 dX3_runUnder_141 rfl ?_
    refine e_iconst (w := (nI 2)) dX3_runUnder_143 (by decide) ?_
    refine e_iload_n 3 dX3_runUnder_144 rfl rfl ?_
    refine e_iload 4 dX3_runUnder_145 rfl ?_
    refine e_iconst (w := (nI 1)) dX3_runUnder_147 (by decide) ?_
    refine e_iadd dX3_runUnder_148 ?_
    obtain ⟨r9, s10, hg, hf⟩ := bP_some hf
    refine e_callV (as := [.int x2, .int x5, .int (nI 2), .int x3, .int (x4 + (nI 1))]) (v := (some (.int r9))) (s' := s10) hV dX3_runUnder_149 (Or.inl rfl) rfl rfl rfl rfl (Nat.le_of_ble_eq_true rfl) lc_U rfl rfl (fun Q hQ => hR0 hg hQ) ?_
    refine e_aload_n 0 dX3_runUnder_152 rfl rfl ?_
    refine e_iload_n 2 dX3_runUnder_153 rfl rfl ?_
    refine e_iconst (w := (nI 0)) dX3_runUnder_154 (by decide) ?_
    refine e_iconst (w := (nI 2)) dX3_runUnder_155 (by decide) ?_
    refine e_iload 4 dX3_runUnder_156 rfl ?_
    obtain ⟨r11, s12, hg, hf⟩ := bP_some hf
    refine e_callV (as := [.int x2, .int (nI 0), .int (nI 2), .int x4]) (v := (some (.int r11))) (s' := s12) hV dX3_runUnder_158 (Or.inl rfl) rfl rfl rfl rfl (Nat.le_of_ble_eq_true rfl) lc_U rfl rfl (fun Q hQ => hR1 hg hQ) ?_
    refine e_isub dX3_runUnder_161 ?_
    obtain rfl := Option.some.inj hf
    exact e_iret dX3_runUnder_162 trivial hP
  rw [if_neg hc50] at hf
  by_cases hc60 : x1 = (nI 60)
  · rw [if_pos hc60] at hf
    refine e_look (tgt := 163) (w := (nI 60)) dX3_runUnder_1 hc60 (by decide) (by decide) ?_
    refine e_aload_n 0 dX3_runUnder_163 rfl rfl ?_
    refine e_iload_n 2 dX3_runUnder_164 rfl rfl ?_
    refine e_iload 5 dX3_runUnder_165 rfl ?_
    refine e_iconst (w := (nI 3)) dX3_runUnder_167 (by decide) ?_
    refine e_iload_n 3 dX3_runUnder_168 rfl rfl ?_
    refine e_iload 4 dX3_runUnder_169 rfl ?_
    refine e_iconst (w := (nI 1)) dX3_runUnder_171 (by decide) ?_
    refine e_iadd dX3_runUnder_172 ?_
    obtain ⟨r13, s14, hg, hf⟩ := bP_some hf
    refine e_callV (as := [.int x2, .int x5, .int (nI 3), .int x3, .int (x4 + (nI 1))]) (v := (some (.int r13))) (s' := s14) hV dX3_runUnder_173 (Or.inl rfl) rfl rfl rfl rfl (Nat.le_of_ble_eq_true rfl) lc_U rfl rfl (fun Q hQ => hR0 hg hQ) ?_
    refine e_iconst (w := (nI 5)) dX3_runUnder_176 (by decide) ?_
    refine e_ixor dX3_runUnder_177 ?_
    obtain rfl := Option.some.inj hf
    exact e_iret dX3_runUnder_178 trivial hP
  rw [if_neg hc60] at hf
  by_cases hc70 : x1 = (nI 70)
  · rw [if_pos hc70] at hf
    refine e_look (tgt := 179) (w := (nI 70)) dX3_runUnder_1 hc70 (by decide) (by decide) ?_
    refine e_aload_n 0 dX3_runUnder_179 rfl rfl ?_
    refine e_iload_n 2 dX3_runUnder_180 rfl rfl ?_
    refine e_iload 5 dX3_runUnder_181 rfl ?_
    refine e_iconst (w := (nI 0)) dX3_runUnder_183 (by decide) ?_
    refine e_iload_n 3 dX3_runUnder_184 rfl rfl ?_
    refine e_iload 4 dX3_runUnder_185 rfl ?_
    refine e_iconst (w := (nI 1)) dX3_runUnder_187 (by decide) ?_
    refine e_iadd dX3_runUnder_188 ?_
    obtain ⟨r15, s16, hg, hf⟩ := bP_some hf
    refine e_callV (as := [.int x2, .int x5, .int (nI 0), .int x3, .int (x4 + (nI 1))]) (v := (some (.int r15))) (s' := s16) hV dX3_runUnder_189 (Or.inl rfl) rfl rfl rfl rfl (Nat.le_of_ble_eq_true rfl) lc_U rfl rfl (fun Q hQ => hR0 hg hQ) ?_
    refine e_iconst (w := (nI 2)) dX3_runUnder_192 (by decide) ?_
    refine e_imul dX3_runUnder_193 ?_
    obtain rfl := Option.some.inj hf
    exact e_iret dX3_runUnder_194 trivial hP
  rw [if_neg hc70] at hf
  by_cases hc80 : x1 = (nI 80)
  · rw [if_pos hc80] at hf
    refine e_look (tgt := 195) (w := (nI 80)) dX3_runUnder_1 hc80 (by decide) (by decide) ?_
    refine e_aload_n 0 dX3_runUnder_195 rfl rfl ?_
    refine e_iload_n 2 dX3_runUnder_196 rfl rfl ?_
    refine e_iload 5 dX3_runUnder_197 rfl ?_
    refine e_iconst (w := (nI 1)) dX3_runUnder_199 (by decide) ?_
    refine e_iload_n 3 dX3_runUnder_200 rfl rfl ?_
    refine e_iload 4 dX3_runUnder_201 rfl ?_
    refine e_iconst (w := (nI 1)) dX3_runUnder_203 (by decide) ?_
    refine e_iadd dX3_runUnder_204 ?_
    obtain ⟨r17, s18, hg, hf⟩ := bP_some hf
    refine e_callV (as := [.int x2, .int x5, .int (nI 1), .int x3, .int (x4 + (nI 1))]) (v := (some (.int r17))) (s' := s18) hV dX3_runUnder_205 (Or.inl rfl) rfl rfl rfl rfl (Nat.le_of_ble_eq_true rfl) lc_U rfl rfl (fun Q hQ => hR0 hg hQ) ?_
    refine e_aload_n 0 dX3_runUnder_208 rfl rfl ?_
    refine e_iload_n 2 dX3_runUnder_209 rfl rfl ?_
    refine e_iconst (w := (nI 2)) dX3_runUnder_210 (by decide) ?_
    refine e_iconst (w := (nI 2)) dX3_runUnder_211 (by decide) ?_
    refine e_iload 4 dX3_runUnder_212 rfl ?_
    obtain ⟨r19, s20, hg, hf⟩ := bP_some hf
    refine e_callV (as := [.int x2, .int (nI 2), .int (nI 2), .int x4]) (v := (some (.int r19))) (s' := s20) hV dX3_runUnder_214 (Or.inl rfl) rfl rfl rfl rfl (Nat.le_of_ble_eq_true rfl) lc_U rfl rfl (fun Q hQ => hR1 hg hQ) ?_
    refine e_iadd dX3_runUnder_217 ?_
    obtain rfl := Option.some.inj hf
    exact e_iret dX3_runUnder_218 trivial hP
  rw [if_neg hc80] at hf
  refine e_lookD (tgt := 219) (ks := [(nI 20), (nI 30), (nI 40), (nI 41), (nI 50), (nI 60), (nI 70), (nI 80)]) dX3_runUnder_1 (by decide) (by decide) (fun z hz => ?_) ?_
  · simp only [List.mem_cons, List.not_mem_nil, or_false] at hz
    rcases hz with rfl | rfl | rfl | rfl | rfl | rfl | rfl | rfl
    · exact hc20
    · exact hc30
    · exact hc40
    · exact hc41
    · exact hc50
    · exact hc60
    · exact hc70
    · exact hc80
  refine e_aload_n 0 dX3_runUnder_219 rfl rfl ?_
  refine e_iload_n 2 dX3_runUnder_220 rfl rfl ?_
  refine e_iload 5 dX3_runUnder_221 rfl ?_
  refine e_iconst (w := (nI 3)) dX3_runUnder_223 (by decide) ?_
  refine e_iload_n 3 dX3_runUnder_224 rfl rfl ?_
  refine e_iload 4 dX3_runUnder_225 rfl ?_
  refine e_iconst (w := (nI 1)) dX3_runUnder_227 (by decide) ?_
  refine e_iadd dX3_runUnder_228 ?_
  obtain ⟨r21, s22, hg, hf⟩ := bP_some hf
  refine e_callV (as := [.int x2, .int x5, .int (nI 3), .int x3, .int (x4 + (nI 1))]) (v := (some (.int r21))) (s' := s22) hV dX3_runUnder_229 (Or.inl rfl) rfl rfl rfl rfl (Nat.le_of_ble_eq_true rfl) lc_U rfl rfl (fun Q hQ => hR0 hg hQ) ?_
  refine e_iconst (w := (nI 1)) dX3_runUnder_232 (by decide) ?_
  refine e_isub dX3_runUnder_233 ?_
  obtain rfl := Option.some.inj hf
  exact e_iret dX3_runUnder_234 trivial hP

theorem dX3_perform_0 : decode cX3_perform 0 = .ok (.iload_n 2, 1) := by decide +kernel
theorem dX3_perform_1 : decode cX3_perform 1 = .ok (.istore 6, 2) := by decide +kernel
theorem dX3_perform_3 : decode cX3_perform 3 = .ok (.iconst 0, 1) := by decide +kernel
theorem dX3_perform_4 : decode cX3_perform 4 = .ok (.istore 7, 2) := by decide +kernel
theorem dX3_perform_6 : decode cX3_perform 6 = .ok (.iload 7, 2) := by decide +kernel
theorem dX3_perform_8 : decode cX3_perform 8 = .ok (.bipush 8, 2) := by decide +kernel
theorem dX3_perform_10 : decode cX3_perform 10 = .ok (.if_icmp .ge 35, 3) := by decide +kernel
theorem dX3_perform_13 : decode cX3_perform 13 = .ok (.iload 6, 2) := by decide +kernel
theorem dX3_perform_15 : decode cX3_perform 15 = .ok (.ifCond .lt 30, 3) := by decide +kernel
theorem dX3_perform_18 : decode cX3_perform 18 = .ok (.getstatic 26, 3) := by decide +kernel
theorem dX3_perform_21 : decode cX3_perform 21 = .ok (.iconst 4, 1) := by decide +kernel
theorem dX3_perform_22 : decode cX3_perform 22 = .ok (.iload 6, 2) := by decide +kernel
theorem dX3_perform_24 : decode cX3_perform 24 = .ok (.imul, 1) := by decide +kernel
theorem dX3_perform_25 : decode cX3_perform 25 = .ok (.iload_n 3, 1) := by decide +kernel
theorem dX3_perform_26 : decode cX3_perform 26 = .ok (.iadd, 1) := by decide +kernel
theorem dX3_perform_27 : decode cX3_perform 27 = .ok (.iaload, 1) := by decide +kernel
theorem dX3_perform_28 : decode cX3_perform 28 = .ok (.ifCond .ne 17, 3) := by decide +kernel
theorem dX3_perform_31 : decode cX3_perform 31 = .ok (.getstatic 20, 3) := by decide +kernel
theorem dX3_perform_34 : decode cX3_perform 34 = .ok (.iload 6, 2) := by decide +kernel
theorem dX3_perform_36 : decode cX3_perform 36 = .ok (.iaload, 1) := by decide +kernel
theorem dX3_perform_37 : decode cX3_perform 37 = .ok (.istore 6, 2) := by decide +kernel
theorem dX3_perform_39 : decode cX3_perform 39 = .ok (.iinc 7 1, 3) := by decide +kernel
theorem dX3_perform_42 : decode cX3_perform 42 = .ok (.goto (-36), 3) := by decide +kernel
theorem dX3_perform_45 : decode cX3_perform 45 = .ok (.iload 6, 2) := by decide +kernel
theorem dX3_perform_47 : decode cX3_perform 47 = .ok (.ifCond .lt 10, 3) := by decide +kernel
theorem dX3_perform_50 : decode cX3_perform 50 = .ok (.iload 5, 2) := by decide +kernel
theorem dX3_perform_52 : decode cX3_perform 52 = .ok (.bipush 40, 2) := by decide +kernel
theorem dX3_perform_54 : decode cX3_perform 54 = .ok (.if_icmp .le 5, 3) := by decide +kernel
theorem dX3_perform_57 : decode cX3_perform 57 = .ok (.iconst 0, 1) := by decide +kernel
theorem dX3_perform_58 : decode cX3_perform 58 = .ok (.ireturn, 1) := by decide +kernel
theorem dX3_perform_59 : decode cX3_perform 59 = .ok (.getstatic 26, 3) := by decide +kernel
theorem dX3_perform_62 : decode cX3_perform 62 = .ok (.iconst 4, 1) := by decide +kernel
theorem dX3_perform_63 : decode cX3_perform 63 = .ok (.iload 6, 2) := by decide +kernel
theorem dX3_perform_65 : decode cX3_perform 65 = .ok (.imul, 1) := by decide +kernel
theorem dX3_perform_66 : decode cX3_perform 66 = .ok (.iload_n 3, 1) := by decide +kernel
theorem dX3_perform_67 : decode cX3_perform 67 = .ok (.iadd, 1) := by decide +kernel
theorem dX3_perform_68 : decode cX3_perform 68 = .ok (.iaload, 1) := by decide +kernel
theorem dX3_perform_69 : decode cX3_perform 69 = .ok (.istore 7, 2) := by decide +kernel
theorem dX3_perform_71 : decode cX3_perform 71 = .ok (.aload_n 0, 1) := by decide +kernel
theorem dX3_perform_72 : decode cX3_perform 72 = .ok (.iload 7, 2) := by decide +kernel
theorem dX3_perform_74 : decode cX3_perform 74 = .ok (.invokevirtual 29, 3) := by decide +kernel
theorem dX3_perform_77 : decode cX3_perform 77 = .ok (.iload 6, 2) := by decide +kernel
theorem dX3_perform_79 : decode cX3_perform 79 = .ok (.ifCond .ne 17, 3) := by decide +kernel
theorem dX3_perform_82 : decode cX3_perform 82 = .ok (.aload_n 0, 1) := by decide +kernel
theorem dX3_perform_83 : decode cX3_perform 83 = .ok (.iload 7, 2) := by decide +kernel
theorem dX3_perform_85 : decode cX3_perform 85 = .ok (.iload_n 1, 1) := by decide +kernel
theorem dX3_perform_86 : decode cX3_perform 86 = .ok (.iload 4, 2) := by decide +kernel
theorem dX3_perform_88 : decode cX3_perform 88 = .ok (.iload 5, 2) := by decide +kernel
theorem dX3_perform_90 : decode cX3_perform 90 = .ok (.invokevirtual 33, 3) := by decide +kernel
theorem dX3_perform_93 : decode cX3_perform 93 = .ok (.goto 20, 3) := by decide +kernel
theorem dX3_perform_96 : decode cX3_perform 96 = .ok (.aload_n 0, 1) := by decide +kernel
theorem dX3_perform_97 : decode cX3_perform 97 = .ok (.iload 7, 2) := by decide +kernel
theorem dX3_perform_99 : decode cX3_perform 99 = .ok (.iload_n 1, 1) := by decide +kernel
theorem dX3_perform_100 : decode cX3_perform 100 = .ok (.iload 4, 2) := by decide +kernel
theorem dX3_perform_102 : decode cX3_perform 102 = .ok (.iload 5, 2) := by decide +kernel
theorem dX3_perform_104 : decode cX3_perform 104 = .ok (.getstatic 20, 3) := by decide +kernel
theorem dX3_perform_107 : decode cX3_perform 107 = .ok (.iload 6, 2) := by decide +kernel
theorem dX3_perform_109 : decode cX3_perform 109 = .ok (.iaload, 1) := by decide +kernel
theorem dX3_perform_110 : decode cX3_perform 110 = .ok (.invokevirtual 37, 3) := by decide +kernel
theorem dX3_perform_113 : decode cX3_perform 113 = .ok (.ireturn, 1) := by decide +kernel
def gX3_perform_b45 (R0 : Int32 → Int32 → Int32 → Int32 → Int32 → mS → Option (Int32 × mS)) (R1 : Int32 → Int32 → Int32 → Int32 → mS → Option (Int32 × mS)) (R2 : Int32 → Int32 → Int32 → Int32 → mS → Option (Int32 × mS)) (R3 : Int32 → Int32 → Int32 → Int32 → Int32 → mS → Option (Int32 × mS)) (y1 : Int32) (y3 : Int32) (y4 : Int32) (y5 : Int32) (y6 : Int32) (s : mS) : Option (Int32 × mS) :=
  if y6 < 0 then
    some ((nI 0), s)
  else
    if y5 ≤ (nI 40) then
      ldR roOwn 32 (((nI 4) * y6) + y3) fun v3 =>
      bnd v3 fun v4 =>
      bO (fX3_note v4 s) fun s5 =>
      if y6 = 0 then
        bP (R2 v4 y1 y4 y5 s5) fun r9 s10 =>
        some (r9, s10)
      else
        ldR roAbove 8 y6 fun v6 =>
        bP (R3 v4 y1 y4 y5 v6 s5) fun r7 s8 =>
        some (r7, s8)
    else
      some ((nI 0), s)

def gX3_perform_b6 (R0 : Int32 → Int32 → Int32 → Int32 → Int32 → mS → Option (Int32 × mS)) (R1 : Int32 → Int32 → Int32 → Int32 → mS → Option (Int32 × mS)) (R2 : Int32 → Int32 → Int32 → Int32 → mS → Option (Int32 × mS)) (R3 : Int32 → Int32 → Int32 → Int32 → Int32 → mS → Option (Int32 × mS)) : Nat → Int32 → Int32 → Int32 → Int32 → Int32 → Int32 → mS → Option (Int32 × mS)
  | 0, _, _, _, _, _, _, _ => none
  | k + 1, y1, y3, y4, y5, y6, y7, s =>
    if (nI 8) ≤ y7 then
      gX3_perform_b45 R0 R1 R2 R3 y1 y3 y4 y5 y6 s
    else
      if y6 < 0 then
        gX3_perform_b45 R0 R1 R2 R3 y1 y3 y4 y5 y6 s
      else
        ldR roOwn 32 (((nI 4) * y6) + y3) fun v11 =>
        if v11 = 0 then
          ldR roAbove 8 y6 fun v12 =>
          bnd v12 fun v13 =>
          bnd (y7 + (nI 1)) fun v14 =>
          gX3_perform_b6 R0 R1 R2 R3 k y1 y3 y4 y5 v13 v14 s
        else
          gX3_perform_b45 R0 R1 R2 R3 y1 y3 y4 y5 y6 s

def gX3_perform (R0 : Int32 → Int32 → Int32 → Int32 → Int32 → mS → Option (Int32 × mS)) (R1 : Int32 → Int32 → Int32 → Int32 → mS → Option (Int32 × mS)) (R2 : Int32 → Int32 → Int32 → Int32 → mS → Option (Int32 × mS)) (R3 : Int32 → Int32 → Int32 → Int32 → Int32 → mS → Option (Int32 × mS)) (x1 : Int32) (x2 : Int32) (x3 : Int32) (x4 : Int32) (x5 : Int32) (s : mS) : Option (Int32 × mS) :=
  bnd x2 fun v1 =>
  bnd (nI 0) fun v2 =>
  gX3_perform_b6 R0 R1 R2 R3 mFu x1 x3 x4 x5 v1 v2 s

set_option maxRecDepth 20000 in
theorem wX3_perform_b45 {ρ : mRo} {n d : Nat} {P : mPo} {V : mS → List mE} (hV : mView LC V) (hr : mRoC ρ) {R0 : Int32 → Int32 → Int32 → Int32 → Int32 → mS → Option (Int32 × mS)} (hR0 : ∀ {x1 x2 x3 x4 x5 : Int32} {s : mS} {res : (Int32 × mS)} {Q : mPo}, R0 x1 x2 x3 x4 x5 s = some res → Q (some (.int res.1)) (V res.2) → mC ρ (n + d + 1) 16 [.ref qU, .int x1, .int x2, .int x3, .int x4, .int x5] (V s) Q) {R1 : Int32 → Int32 → Int32 → Int32 → mS → Option (Int32 × mS)} (hR1 : ∀ {x1 x2 x3 x4 : Int32} {s : mS} {res : (Int32 × mS)} {Q : mPo}, R1 x1 x2 x3 x4 s = some res → Q (some (.int res.1)) (V res.2) → mC ρ (n + d + 1) 17 [.ref qU, .int x1, .int x2, .int x3, .int x4] (V s) Q) {R2 : Int32 → Int32 → Int32 → Int32 → mS → Option (Int32 × mS)} (hR2 : ∀ {x1 x2 x3 x4 : Int32} {s : mS} {res : (Int32 × mS)} {Q : mPo}, R2 x1 x2 x3 x4 s = some res → Q (some (.int res.1)) (V res.2) → mC ρ (n + d + 1) 18 [.ref qU, .int x1, .int x2, .int x3, .int x4] (V s) Q) {R3 : Int32 → Int32 → Int32 → Int32 → Int32 → mS → Option (Int32 × mS)} (hR3 : ∀ {x1 x2 x3 x4 x5 : Int32} {s : mS} {res : (Int32 × mS)} {Q : mPo}, R3 x1 x2 x3 x4 x5 s = some res → Q (some (.int res.1)) (V res.2) → mC ρ (n + d + 1) 19 [.ref qU, .int x1, .int x2, .int x3, .int x4, .int x5] (V s) Q)  {res : (Int32 × mS)} (hP : P (some (.int res.1)) (V res.2)) (y1 : Int32) (y3 : Int32) (y4 : Int32) (y5 : Int32) (y6 : Int32) (s : mS) (hf : gX3_perform_b45 R0 R1 R2 R3 y1 y3 y4 y5 y6 s = some res) : mG ρ (mC ρ (n + d + 1)) 3 8 cX3_perform (some .int) P 45 [(0, .ref qU), (1, .int y1), (3, .int y3), (4, .int y4), (5, .int y5), (6, .int y6)] [] (V s) := by
  unfold gX3_perform_b45 at hf
  refine e_iload 5 dX3_perform_45 rfl ?_
  refine e_if_lt 57 dX3_perform_47 (by decide) hf (fun hf => ?_) (fun hf => ?_)
  · refine e_iconst (w := (nI 0)) dX3_perform_57 (by decide) ?_
    obtain rfl := Option.some.inj hf
    exact e_iret dX3_perform_58 trivial hP
  · refine e_iload 4 dX3_perform_50 rfl ?_
    refine e_bipush (w := (nI 40)) dX3_perform_52 (by decide) ?_
    refine e_icmp_le 59 dX3_perform_54 (by decide) hf (fun hf => ?_) (fun hf => ?_)
    · refine e_gets dX3_perform_59 rfl ?_
      refine e_iconst (w := (nI 4)) dX3_perform_62 (by decide) ?_
      refine e_iload 5 dX3_perform_63 rfl ?_
      refine e_imul dX3_perform_65 ?_
      refine e_iload_n 2 dX3_perform_66 rfl rfl ?_
      refine e_iadd dX3_perform_67 ?_
      refine e_rald dX3_perform_68 hr.1 hf (fun v3 hf => ?_)
      refine e_istore dX3_perform_69 (by decide) hf (fun v4 hf => ?_)
      refine e_aload_n 1 dX3_perform_71 rfl rfl ?_
      refine e_iload 0 dX3_perform_72 rfl ?_
      obtain ⟨s5, hg, hf⟩ := bO_some hf
      refine e_callV (as := [.int v4]) (v := none) (s' := s5) hV dX3_perform_74 (Or.inl rfl) rfl rfl rfl rfl (Nat.le_of_ble_eq_true rfl) lc_U rfl rfl (fun Q hQ => tX3_note (d := (n + d)) hV  hg hQ) ?_
      refine e_iload 6 dX3_perform_77 rfl ?_
      refine e_if_ne 96 dX3_perform_79 (by decide) hf (fun hf => ?_) (fun hf => ?_)
      · refine e_aload_n 1 dX3_perform_96 rfl rfl ?_
        refine e_iload 0 dX3_perform_97 rfl ?_
        refine e_iload_n 2 dX3_perform_99 rfl rfl ?_
        refine e_iload 4 dX3_perform_100 rfl ?_
        refine e_iload 5 dX3_perform_102 rfl ?_
        refine e_gets dX3_perform_104 rfl ?_
        refine e_iload 6 dX3_perform_107 rfl ?_
        refine e_rald dX3_perform_109 hr.2 hf (fun v6 hf => ?_)
        obtain ⟨r7, s8, hg, hf⟩ := bP_some hf
        refine e_callV (as := [.int v4, .int y1, .int y4, .int y5, .int v6]) (v := (some (.int r7))) (s' := s8) hV dX3_perform_110 (Or.inl rfl) rfl rfl rfl rfl (Nat.le_of_ble_eq_true rfl) lc_U rfl rfl (fun Q hQ => hR3 hg hQ) ?_
        obtain rfl := Option.some.inj hf
        exact e_iret dX3_perform_113 trivial hP
      · refine e_aload_n 1 dX3_perform_82 rfl rfl ?_
        refine e_iload 0 dX3_perform_83 rfl ?_
        refine e_iload_n 2 dX3_perform_85 rfl rfl ?_
        refine e_iload 4 dX3_perform_86 rfl ?_
        refine e_iload 5 dX3_perform_88 rfl ?_
        obtain ⟨r9, s10, hg, hf⟩ := bP_some hf
        refine e_callV (as := [.int v4, .int y1, .int y4, .int y5]) (v := (some (.int r9))) (s' := s10) hV dX3_perform_90 (Or.inl rfl) rfl rfl rfl rfl (Nat.le_of_ble_eq_true rfl) lc_U rfl rfl (fun Q hQ => hR2 hg hQ) ?_
        refine e_goto 113 dX3_perform_93 (by decide) ?_
        obtain rfl := Option.some.inj hf
        exact e_iret dX3_perform_113 trivial hP
    · refine e_iconst (w := (nI 0)) dX3_perform_57 (by decide) ?_
      obtain rfl := Option.some.inj hf
      exact e_iret dX3_perform_58 trivial hP
set_option maxRecDepth 20000 in
theorem wX3_perform_b6 {ρ : mRo} {n d : Nat} {P : mPo} {V : mS → List mE} (hV : mView LC V) (hr : mRoC ρ) {R0 : Int32 → Int32 → Int32 → Int32 → Int32 → mS → Option (Int32 × mS)} (hR0 : ∀ {x1 x2 x3 x4 x5 : Int32} {s : mS} {res : (Int32 × mS)} {Q : mPo}, R0 x1 x2 x3 x4 x5 s = some res → Q (some (.int res.1)) (V res.2) → mC ρ (n + d + 1) 16 [.ref qU, .int x1, .int x2, .int x3, .int x4, .int x5] (V s) Q) {R1 : Int32 → Int32 → Int32 → Int32 → mS → Option (Int32 × mS)} (hR1 : ∀ {x1 x2 x3 x4 : Int32} {s : mS} {res : (Int32 × mS)} {Q : mPo}, R1 x1 x2 x3 x4 s = some res → Q (some (.int res.1)) (V res.2) → mC ρ (n + d + 1) 17 [.ref qU, .int x1, .int x2, .int x3, .int x4] (V s) Q) {R2 : Int32 → Int32 → Int32 → Int32 → mS → Option (Int32 × mS)} (hR2 : ∀ {x1 x2 x3 x4 : Int32} {s : mS} {res : (Int32 × mS)} {Q : mPo}, R2 x1 x2 x3 x4 s = some res → Q (some (.int res.1)) (V res.2) → mC ρ (n + d + 1) 18 [.ref qU, .int x1, .int x2, .int x3, .int x4] (V s) Q) {R3 : Int32 → Int32 → Int32 → Int32 → Int32 → mS → Option (Int32 × mS)} (hR3 : ∀ {x1 x2 x3 x4 x5 : Int32} {s : mS} {res : (Int32 × mS)} {Q : mPo}, R3 x1 x2 x3 x4 x5 s = some res → Q (some (.int res.1)) (V res.2) → mC ρ (n + d + 1) 19 [.ref qU, .int x1, .int x2, .int x3, .int x4, .int x5] (V s) Q)  {res : (Int32 × mS)} (hP : P (some (.int res.1)) (V res.2)) : ∀ (k : Nat) (y1 : Int32) (y3 : Int32) (y4 : Int32) (y5 : Int32) (y6 : Int32) (y7 : Int32) (s : mS), gX3_perform_b6 R0 R1 R2 R3 k y1 y3 y4 y5 y6 y7 s = some res → mG ρ (mC ρ (n + d + 1)) 3 8 cX3_perform (some .int) P 6 [(0, .ref qU), (1, .int y1), (3, .int y3), (4, .int y4), (5, .int y5), (6, .int y6), (7, .int y7)] [] (V s) := by
  intro k
  induction k with
  | zero => intro y1 y3 y4 y5 y6 y7 s hf; rw [gX3_perform_b6] at hf; cases hf
  | succ k ih =>
    intro y1 y3 y4 y5 y6 y7 s hf
    rw [gX3_perform_b6] at hf
    refine e_iload 6 dX3_perform_6 rfl ?_
    refine e_bipush (w := (nI 8)) dX3_perform_8 (by decide) ?_
    refine e_icmp_ge 45 dX3_perform_10 (by decide) hf (fun hf => ?_) (fun hf => ?_)
    · refine e_pick [0, 1, 2, 3, 4, 5] rfl ?_
      exact wX3_perform_b45 hV hr hR0 hR1 hR2 hR3 hP y1 y3 y4 y5 y6 s hf
    · refine e_iload 5 dX3_perform_13 rfl ?_
      refine e_if_lt 45 dX3_perform_15 (by decide) hf (fun hf => ?_) (fun hf => ?_)
      · refine e_pick [0, 1, 2, 3, 4, 5] rfl ?_
        exact wX3_perform_b45 hV hr hR0 hR1 hR2 hR3 hP y1 y3 y4 y5 y6 s hf
      · refine e_gets dX3_perform_18 rfl ?_
        refine e_iconst (w := (nI 4)) dX3_perform_21 (by decide) ?_
        refine e_iload 5 dX3_perform_22 rfl ?_
        refine e_imul dX3_perform_24 ?_
        refine e_iload_n 2 dX3_perform_25 rfl rfl ?_
        refine e_iadd dX3_perform_26 ?_
        refine e_rald dX3_perform_27 hr.1 hf (fun v11 hf => ?_)
        refine e_if_ne 45 dX3_perform_28 (by decide) hf (fun hf => ?_) (fun hf => ?_)
        · refine e_pick [0, 1, 2, 3, 4, 5] rfl ?_
          exact wX3_perform_b45 hV hr hR0 hR1 hR2 hR3 hP y1 y3 y4 y5 y6 s hf
        · refine e_gets dX3_perform_31 rfl ?_
          refine e_iload 5 dX3_perform_34 rfl ?_
          refine e_rald dX3_perform_36 hr.2 hf (fun v12 hf => ?_)
          refine e_istore dX3_perform_37 (by decide) hf (fun v13 hf => ?_)
          refine e_iinc 6 dX3_perform_39 (by decide) rfl hf (fun v14 hf => ?_)
          refine e_goto 6 dX3_perform_42 (by decide) ?_
          refine e_pick [2, 3, 4, 5, 6, 1, 0] rfl ?_
          exact ih y1 y3 y4 y5 v13 v14 s hf
set_option maxRecDepth 20000 in
theorem uX3_perform {ρ : mRo} {n d : Nat} {P : mPo} {V : mS → List mE} (hV : mView LC V) (hr : mRoC ρ) {R0 : Int32 → Int32 → Int32 → Int32 → Int32 → mS → Option (Int32 × mS)} (hR0 : ∀ {x1 x2 x3 x4 x5 : Int32} {s : mS} {res : (Int32 × mS)} {Q : mPo}, R0 x1 x2 x3 x4 x5 s = some res → Q (some (.int res.1)) (V res.2) → mC ρ (n + d + 1) 16 [.ref qU, .int x1, .int x2, .int x3, .int x4, .int x5] (V s) Q) {R1 : Int32 → Int32 → Int32 → Int32 → mS → Option (Int32 × mS)} (hR1 : ∀ {x1 x2 x3 x4 : Int32} {s : mS} {res : (Int32 × mS)} {Q : mPo}, R1 x1 x2 x3 x4 s = some res → Q (some (.int res.1)) (V res.2) → mC ρ (n + d + 1) 17 [.ref qU, .int x1, .int x2, .int x3, .int x4] (V s) Q) {R2 : Int32 → Int32 → Int32 → Int32 → mS → Option (Int32 × mS)} (hR2 : ∀ {x1 x2 x3 x4 : Int32} {s : mS} {res : (Int32 × mS)} {Q : mPo}, R2 x1 x2 x3 x4 s = some res → Q (some (.int res.1)) (V res.2) → mC ρ (n + d + 1) 18 [.ref qU, .int x1, .int x2, .int x3, .int x4] (V s) Q) {R3 : Int32 → Int32 → Int32 → Int32 → Int32 → mS → Option (Int32 × mS)} (hR3 : ∀ {x1 x2 x3 x4 x5 : Int32} {s : mS} {res : (Int32 × mS)} {Q : mPo}, R3 x1 x2 x3 x4 x5 s = some res → Q (some (.int res.1)) (V res.2) → mC ρ (n + d + 1) 19 [.ref qU, .int x1, .int x2, .int x3, .int x4, .int x5] (V s) Q)  {x1 : Int32} {x2 : Int32} {x3 : Int32} {x4 : Int32} {x5 : Int32} {s : mS} {res : (Int32 × mS)} (hf : gX3_perform R0 R1 R2 R3 x1 x2 x3 x4 x5 s = some res) (hP : P (some (.int res.1)) (V res.2)) : mC ρ (n + d + 1 + 1) 16 [.ref qU, .int x1, .int x2, .int x3, .int x4, .int x5] (V s) P := by
  refine ⟨_, rfl, Nat.le_of_ble_eq_true rfl, by decide, ?_⟩
  show mG ρ (mC ρ (n + d + 1)) 3 8 cX3_perform (some .int) P 0 [(0, .ref qU), (1, .int x1), (2, .int x2), (3, .int x3), (4, .int x4), (5, .int x5)] [] (V s)
  unfold gX3_perform at hf
  refine e_iload_n 2 dX3_perform_0 rfl rfl ?_
  refine e_istore dX3_perform_1 (by decide) hf (fun v1 hf => ?_)
  refine e_iconst (w := (nI 0)) dX3_perform_3 (by decide) ?_
  refine e_istore dX3_perform_4 (by decide) hf (fun v2 hf => ?_)
  refine e_pick [2, 3, 5, 6, 7, 1, 0] rfl ?_
  exact wX3_perform_b6 hV hr hR0 hR1 hR2 hR3 hP mFu x1 x3 x4 x5 v1 v2 s hf

def sccX3_perform : Nat → (Int32 → Int32 → Int32 → Int32 → Int32 → mS → Option (Int32 × mS)) × (Int32 → Int32 → Int32 → Int32 → mS → Option (Int32 × mS)) × (Int32 → Int32 → Int32 → Int32 → mS → Option (Int32 × mS)) × (Int32 → Int32 → Int32 → Int32 → Int32 → mS → Option (Int32 × mS))
  | 0 => (fun _ _ _ _ _ _ => none, fun _ _ _ _ _ => none, fun _ _ _ _ _ => none, fun _ _ _ _ _ _ => none)
  | n + 1 => (gX3_perform ((sccX3_perform n).1) ((sccX3_perform n).2.1) ((sccX3_perform n).2.2.1) ((sccX3_perform n).2.2.2), gX3_own ((sccX3_perform n).1) ((sccX3_perform n).2.1) ((sccX3_perform n).2.2.1) ((sccX3_perform n).2.2.2), gX3_runGhost ((sccX3_perform n).1) ((sccX3_perform n).2.1) ((sccX3_perform n).2.2.1) ((sccX3_perform n).2.2.2), gX3_runUnder ((sccX3_perform n).1) ((sccX3_perform n).2.1) ((sccX3_perform n).2.2.1) ((sccX3_perform n).2.2.2))
theorem tsccX3_perform {ρ : mRo} {d : Nat} {V : mS → List mE} (hV : mView LC V) (hr : mRoC ρ) : ∀ n : Nat, (∀ {x1 x2 x3 x4 x5 : Int32} {s : mS} {res : (Int32 × mS)} {Q : mPo}, (sccX3_perform n).1 x1 x2 x3 x4 x5 s = some res → Q (some (.int res.1)) (V res.2) → mC ρ (n + d + 1) 16 [.ref qU, .int x1, .int x2, .int x3, .int x4, .int x5] (V s) Q) ∧ (∀ {x1 x2 x3 x4 : Int32} {s : mS} {res : (Int32 × mS)} {Q : mPo}, (sccX3_perform n).2.1 x1 x2 x3 x4 s = some res → Q (some (.int res.1)) (V res.2) → mC ρ (n + d + 1) 17 [.ref qU, .int x1, .int x2, .int x3, .int x4] (V s) Q) ∧ (∀ {x1 x2 x3 x4 : Int32} {s : mS} {res : (Int32 × mS)} {Q : mPo}, (sccX3_perform n).2.2.1 x1 x2 x3 x4 s = some res → Q (some (.int res.1)) (V res.2) → mC ρ (n + d + 1) 18 [.ref qU, .int x1, .int x2, .int x3, .int x4] (V s) Q) ∧ (∀ {x1 x2 x3 x4 x5 : Int32} {s : mS} {res : (Int32 × mS)} {Q : mPo}, (sccX3_perform n).2.2.2 x1 x2 x3 x4 x5 s = some res → Q (some (.int res.1)) (V res.2) → mC ρ (n + d + 1) 19 [.ref qU, .int x1, .int x2, .int x3, .int x4, .int x5] (V s) Q) := by
  intro n
  induction n with
  | zero => exact ⟨(fun hf _ => nomatch hf), (fun hf _ => nomatch hf), (fun hf _ => nomatch hf), (fun hf _ => nomatch hf)⟩
  | succ n ih =>
    rw [show n + 1 + d + 1 = n + d + 1 + 1 by omega]
    exact ⟨(fun hf hP => uX3_perform hV hr (ih).1 (ih).2.1 (ih).2.2.1 (ih).2.2.2 hf hP), (fun hf hP => uX3_own hV hr (ih).1 (ih).2.1 (ih).2.2.1 (ih).2.2.2 hf hP), (fun hf hP => uX3_runGhost hV hr (ih).1 (ih).2.1 (ih).2.2.1 (ih).2.2.2 hf hP), (fun hf hP => uX3_runUnder hV hr (ih).1 (ih).2.1 (ih).2.2.1 (ih).2.2.2 hf hP)⟩
def fX3_perform (x1 : Int32) (x2 : Int32) (x3 : Int32) (x4 : Int32) (x5 : Int32) (s : mS) : Option (Int32 × mS) := (sccX3_perform 60).1 x1 x2 x3 x4 x5 s
theorem tX3_perform {ρ : mRo} {d : Nat} {P : mPo} {V : mS → List mE} (hV : mView LC V) (hr : mRoC ρ) {x1 : Int32} {x2 : Int32} {x3 : Int32} {x4 : Int32} {x5 : Int32} {s : mS} {res : (Int32 × mS)} (hf : fX3_perform x1 x2 x3 x4 x5 s = some res) (hP : P (some (.int res.1)) (V res.2)) : mC ρ (d + 61) 16 [.ref qU, .int x1, .int x2, .int x3, .int x4, .int x5] (V s) P := by
  rw [show d + 61 = 60 + d + 1 by omega]
  exact (tsccX3_perform hV hr 60).1 hf hP
def fX3_own (x1 : Int32) (x2 : Int32) (x3 : Int32) (x4 : Int32) (s : mS) : Option (Int32 × mS) := (sccX3_perform 60).2.1 x1 x2 x3 x4 s
theorem tX3_own {ρ : mRo} {d : Nat} {P : mPo} {V : mS → List mE} (hV : mView LC V) (hr : mRoC ρ) {x1 : Int32} {x2 : Int32} {x3 : Int32} {x4 : Int32} {s : mS} {res : (Int32 × mS)} (hf : fX3_own x1 x2 x3 x4 s = some res) (hP : P (some (.int res.1)) (V res.2)) : mC ρ (d + 61) 17 [.ref qU, .int x1, .int x2, .int x3, .int x4] (V s) P := by
  rw [show d + 61 = 60 + d + 1 by omega]
  exact (tsccX3_perform hV hr 60).2.1 hf hP
def fX3_runGhost (x1 : Int32) (x2 : Int32) (x3 : Int32) (x4 : Int32) (s : mS) : Option (Int32 × mS) := (sccX3_perform 60).2.2.1 x1 x2 x3 x4 s
theorem tX3_runGhost {ρ : mRo} {d : Nat} {P : mPo} {V : mS → List mE} (hV : mView LC V) (hr : mRoC ρ) {x1 : Int32} {x2 : Int32} {x3 : Int32} {x4 : Int32} {s : mS} {res : (Int32 × mS)} (hf : fX3_runGhost x1 x2 x3 x4 s = some res) (hP : P (some (.int res.1)) (V res.2)) : mC ρ (d + 61) 18 [.ref qU, .int x1, .int x2, .int x3, .int x4] (V s) P := by
  rw [show d + 61 = 60 + d + 1 by omega]
  exact (tsccX3_perform hV hr 60).2.2.1 hf hP
def fX3_runUnder (x1 : Int32) (x2 : Int32) (x3 : Int32) (x4 : Int32) (x5 : Int32) (s : mS) : Option (Int32 × mS) := (sccX3_perform 60).2.2.2 x1 x2 x3 x4 x5 s
theorem tX3_runUnder {ρ : mRo} {d : Nat} {P : mPo} {V : mS → List mE} (hV : mView LC V) (hr : mRoC ρ) {x1 : Int32} {x2 : Int32} {x3 : Int32} {x4 : Int32} {x5 : Int32} {s : mS} {res : (Int32 × mS)} (hf : fX3_runUnder x1 x2 x3 x4 x5 s = some res) (hP : P (some (.int res.1)) (V res.2)) : mC ρ (d + 61) 19 [.ref qU, .int x1, .int x2, .int x3, .int x4, .int x5] (V s) P := by
  rw [show d + 61 = 60 + d + 1 by omega]
  exact (tsccX3_perform hV hr 60).2.2.2 hf hP

theorem dX4_become_0 : decode cX4_become 0 = .ok (.aload_n 1, 1) := by decide +kernel
theorem dX4_become_1 : decode cX4_become 1 = .ok (.getfield 18, 3) := by decide +kernel
theorem dX4_become_4 : decode cX4_become 4 = .ok (.iconst 0, 1) := by decide +kernel
theorem dX4_become_5 : decode cX4_become 5 = .ok (.aload_n 0, 1) := by decide +kernel
theorem dX4_become_6 : decode cX4_become 6 = .ok (.getfield 9, 3) := by decide +kernel
theorem dX4_become_9 : decode cX4_become 9 = .ok (.iconst 0, 1) := by decide +kernel
theorem dX4_become_10 : decode cX4_become 10 = .ok (.aload_n 1, 1) := by decide +kernel
theorem dX4_become_11 : decode cX4_become 11 = .ok (.getfield 19, 3) := by decide +kernel
theorem dX4_become_14 : decode cX4_become 14 = .ok (.invokestatic 23, 3) := by decide +kernel
theorem dX4_become_17 : decode cX4_become 17 = .ok (.aload_n 0, 1) := by decide +kernel
theorem dX4_become_18 : decode cX4_become 18 = .ok (.aload_n 1, 1) := by decide +kernel
theorem dX4_become_19 : decode cX4_become 19 = .ok (.getfield 19, 3) := by decide +kernel
theorem dX4_become_22 : decode cX4_become 22 = .ok (.putfield 29, 3) := by decide +kernel
theorem dX4_become_25 : decode cX4_become 25 = .ok (.aload_n 0, 1) := by decide +kernel
theorem dX4_become_26 : decode cX4_become 26 = .ok (.iconst 1, 1) := by decide +kernel
theorem dX4_become_27 : decode cX4_become 27 = .ok (.putfield 30, 3) := by decide +kernel
theorem dX4_become_30 : decode cX4_become 30 = .ok (.return_, 1) := by decide +kernel
def fX4_become (s : mS) : Option mS :=
  cpA s aP_steps 121 aL_steps 121 (nI 0) (nI 0) (gI s iP_stepsSize) fun s1 =>
  bnd (pI s1 iL_stepsSize (gI s1 iP_stepsSize)) fun s2 =>
  bnd (pI s2 iL_told (nI 1)) fun s3 =>
  some s3

set_option maxRecDepth 20000 in
theorem tX4_become {ρ : mRo} {d : Nat} {P : mPo} {V : mS → List mE} (hV : mView LC V)  {s : mS} {res : mS} (hf : fX4_become s = some res) (hP : P none (V res)) : mC ρ (d + 1) 20 [.ref qL, .ref qP] (V s) P := by
  refine ⟨_, rfl, Nat.le_of_ble_eq_true rfl, by decide, ?_⟩
  show mG ρ (mC ρ d) 4 2 cX4_become none P 0 [(0, .ref qL), (1, .ref qP)] [] (V s)
  unfold fX4_become at hf
  refine e_aload_n 1 dX4_become_0 rfl rfl ?_
  refine e_getr hV dX4_become_1 rfl lc_P rfl ?_
  refine e_iconst (w := (nI 0)) dX4_become_4 (by decide) ?_
  refine e_aload_n 0 dX4_become_5 rfl rfl ?_
  refine e_getr hV dX4_become_6 rfl lc_L rfl ?_
  refine e_iconst (w := (nI 0)) dX4_become_9 (by decide) ?_
  refine e_aload_n 1 dX4_become_10 rfl rfl ?_
  refine e_geti hV dX4_become_11 rfl lc_P rfl ?_
  refine e_cpA hV dX4_become_14 (by decide) (Nat.le_of_ble_eq_true rfl) lc_P_steps lc_L_steps hf (fun s1 hf => ?_)
  refine e_aload_n 0 dX4_become_17 rfl rfl ?_
  refine e_aload_n 1 dX4_become_18 rfl rfl ?_
  refine e_geti hV dX4_become_19 rfl lc_P rfl ?_
  refine e_puti hV dX4_become_22 rfl rfl rfl (Or.inl rfl) lc_L rfl hf (fun s2 hf => ?_)
  refine e_aload_n 0 dX4_become_25 rfl rfl ?_
  refine e_iconst (w := (nI 1)) dX4_become_26 (by decide) ?_
  refine e_puti hV dX4_become_27 rfl rfl rfl (Or.inr ⟨rfl, Or.inr rfl⟩) lc_L rfl hf (fun s3 hf => ?_)
  obtain rfl := Option.some.inj hf
  exact e_ret dX4_become_30 rfl hP

theorem dX8_isName_0 : decode cX8_isName 0 = .ok (.iload_n 0, 1) := by decide +kernel
theorem dX8_isName_1 : decode cX8_isName 1 = .ok (.bipush 97, 2) := by decide +kernel
theorem dX8_isName_3 : decode cX8_isName 3 = .ok (.if_icmp .eq 33, 3) := by decide +kernel
theorem dX8_isName_6 : decode cX8_isName 6 = .ok (.iload_n 0, 1) := by decide +kernel
theorem dX8_isName_7 : decode cX8_isName 7 = .ok (.bipush 116, 2) := by decide +kernel
theorem dX8_isName_9 : decode cX8_isName 9 = .ok (.if_icmp .eq 27, 3) := by decide +kernel
theorem dX8_isName_12 : decode cX8_isName 12 = .ok (.iload_n 0, 1) := by decide +kernel
theorem dX8_isName_13 : decode cX8_isName 13 = .ok (.bipush 104, 2) := by decide +kernel
theorem dX8_isName_15 : decode cX8_isName 15 = .ok (.if_icmp .eq 21, 3) := by decide +kernel
theorem dX8_isName_18 : decode cX8_isName 18 = .ok (.iload_n 0, 1) := by decide +kernel
theorem dX8_isName_19 : decode cX8_isName 19 = .ok (.bipush 100, 2) := by decide +kernel
theorem dX8_isName_21 : decode cX8_isName 21 = .ok (.if_icmp .eq 15, 3) := by decide +kernel
theorem dX8_isName_24 : decode cX8_isName 24 = .ok (.iload_n 0, 1) := by decide +kernel
theorem dX8_isName_25 : decode cX8_isName 25 = .ok (.bipush 114, 2) := by decide +kernel
theorem dX8_isName_27 : decode cX8_isName 27 = .ok (.if_icmp .eq 9, 3) := by decide +kernel
theorem dX8_isName_30 : decode cX8_isName 30 = .ok (.iload_n 0, 1) := by decide +kernel
theorem dX8_isName_31 : decode cX8_isName 31 = .ok (.bipush 109, 2) := by decide +kernel
theorem dX8_isName_33 : decode cX8_isName 33 = .ok (.if_icmp .ne 7, 3) := by decide +kernel
theorem dX8_isName_36 : decode cX8_isName 36 = .ok (.iconst 1, 1) := by decide +kernel
theorem dX8_isName_37 : decode cX8_isName 37 = .ok (.goto 4, 3) := by decide +kernel
theorem dX8_isName_40 : decode cX8_isName 40 = .ok (.iconst 0, 1) := by decide +kernel
theorem dX8_isName_41 : decode cX8_isName 41 = .ok (.ireturn, 1) := by decide +kernel
def fX8_isName_b36 (s : mS) : Option Int32 :=
  some (nI 1)

def fX8_isName (x0 : Int32) (s : mS) : Option Int32 :=
  if x0 = (nI 97) then
    fX8_isName_b36 s
  else
    if x0 = (nI 116) then
      fX8_isName_b36 s
    else
      if x0 = (nI 104) then
        fX8_isName_b36 s
      else
        if x0 = (nI 100) then
          fX8_isName_b36 s
        else
          if x0 = (nI 114) then
            fX8_isName_b36 s
          else
            if x0 = (nI 109) then
              fX8_isName_b36 s
            else
              some (nI 0)

set_option maxRecDepth 20000 in
theorem wX8_isName_b36 {ρ : mRo} {d : Nat} {P : mPo} {V : mS → List mE} (hV : mView LC V)  {res : Int32} {s : mS} (hP : P (some (.int res)) (V s)) (hf : fX8_isName_b36 s = some res) : mG ρ (mC ρ d) 8 1 cX8_isName (some .boolean) P 36 [] [] (V s) := by
  unfold fX8_isName_b36 at hf
  refine e_iconst (w := (nI 1)) dX8_isName_36 (by decide) ?_
  refine e_goto 41 dX8_isName_37 (by decide) ?_
  obtain rfl := Option.some.inj hf
  exact e_iret dX8_isName_41 (Or.inr rfl) hP
set_option maxRecDepth 20000 in
theorem tX8_isName {ρ : mRo} {d : Nat} {P : mPo} {V : mS → List mE} (hV : mView LC V)  {x0 : Int32} {s : mS} {res : Int32} (hf : fX8_isName x0 s = some res) (hP : P (some (.int res)) (V s)) : mC ρ (d + 1) 55 [.int x0] (V s) P := by
  refine ⟨_, rfl, Nat.le_of_ble_eq_true rfl, by decide, ?_⟩
  show mG ρ (mC ρ d) 8 1 cX8_isName (some .boolean) P 0 [(0, .int x0)] [] (V s)
  unfold fX8_isName at hf
  refine e_iload_n 0 dX8_isName_0 rfl rfl ?_
  refine e_bipush (w := (nI 97)) dX8_isName_1 (by decide) ?_
  refine e_icmp_eq 36 dX8_isName_3 (by decide) hf (fun hf => ?_) (fun hf => ?_)
  · refine e_pick [] rfl ?_
    exact wX8_isName_b36 hV hP  hf
  · refine e_iload_n 0 dX8_isName_6 rfl rfl ?_
    refine e_bipush (w := (nI 116)) dX8_isName_7 (by decide) ?_
    refine e_icmp_eq 36 dX8_isName_9 (by decide) hf (fun hf => ?_) (fun hf => ?_)
    · refine e_pick [] rfl ?_
      exact wX8_isName_b36 hV hP  hf
    · refine e_iload_n 0 dX8_isName_12 rfl rfl ?_
      refine e_bipush (w := (nI 104)) dX8_isName_13 (by decide) ?_
      refine e_icmp_eq 36 dX8_isName_15 (by decide) hf (fun hf => ?_) (fun hf => ?_)
      · refine e_pick [] rfl ?_
        exact wX8_isName_b36 hV hP  hf
      · refine e_iload_n 0 dX8_isName_18 rfl rfl ?_
        refine e_bipush (w := (nI 100)) dX8_isName_19 (by decide) ?_
        refine e_icmp_eq 36 dX8_isName_21 (by decide) hf (fun hf => ?_) (fun hf => ?_)
        · refine e_pick [] rfl ?_
          exact wX8_isName_b36 hV hP  hf
        · refine e_iload_n 0 dX8_isName_24 rfl rfl ?_
          refine e_bipush (w := (nI 114)) dX8_isName_25 (by decide) ?_
          refine e_icmp_eq 36 dX8_isName_27 (by decide) hf (fun hf => ?_) (fun hf => ?_)
          · refine e_pick [] rfl ?_
            exact wX8_isName_b36 hV hP  hf
          · refine e_iload_n 0 dX8_isName_30 rfl rfl ?_
            refine e_bipush (w := (nI 109)) dX8_isName_31 (by decide) ?_
            refine e_icmp_ne 40 dX8_isName_33 (by decide) hf (fun hf => ?_) (fun hf => ?_)
            · refine e_iconst (w := (nI 0)) dX8_isName_40 (by decide) ?_
              obtain rfl := Option.some.inj hf
              exact e_iret dX8_isName_41 (Or.inl rfl) hP
            · refine e_pick [] rfl ?_
              exact wX8_isName_b36 hV hP  hf

theorem dX4_operandsOf_0 : decode cX4_operandsOf 0 = .ok (.iload_n 0, 1) := by decide +kernel
theorem dX4_operandsOf_1 : decode cX4_operandsOf 1 = .ok (.ifCond .ge 11, 3) := by decide +kernel
theorem dX4_operandsOf_4 : decode cX4_operandsOf 4 = .ok (.iload_n 0, 1) := by decide +kernel
theorem dX4_operandsOf_5 : decode cX4_operandsOf 5 = .ok (.ineg, 1) := by decide +kernel
theorem dX4_operandsOf_6 : decode cX4_operandsOf 6 = .ok (.invokestatic 42, 3) := by decide +kernel
theorem dX4_operandsOf_9 : decode cX4_operandsOf 9 = .ok (.ifCond .eq 5, 3) := by decide +kernel
theorem dX4_operandsOf_12 : decode cX4_operandsOf 12 = .ok (.iconst 0, 1) := by decide +kernel
theorem dX4_operandsOf_13 : decode cX4_operandsOf 13 = .ok (.ireturn, 1) := by decide +kernel
theorem dX4_operandsOf_14 : decode cX4_operandsOf 14 = .ok (.iload_n 0, 1) := by decide +kernel
theorem dX4_operandsOf_15 : decode cX4_operandsOf 15 = .ok (.iconst (-1), 1) := by decide +kernel
theorem dX4_operandsOf_16 : decode cX4_operandsOf 16 = .ok (.if_icmp .eq 15, 3) := by decide +kernel
theorem dX4_operandsOf_19 : decode cX4_operandsOf 19 = .ok (.iload_n 0, 1) := by decide +kernel
theorem dX4_operandsOf_20 : decode cX4_operandsOf 20 = .ok (.bipush (-33), 2) := by decide +kernel
theorem dX4_operandsOf_22 : decode cX4_operandsOf 22 = .ok (.if_icmp .eq 9, 3) := by decide +kernel
theorem dX4_operandsOf_25 : decode cX4_operandsOf 25 = .ok (.iload_n 0, 1) := by decide +kernel
theorem dX4_operandsOf_26 : decode cX4_operandsOf 26 = .ok (.bipush (-2), 2) := by decide +kernel
theorem dX4_operandsOf_28 : decode cX4_operandsOf 28 = .ok (.if_icmp .ne 7, 3) := by decide +kernel
theorem dX4_operandsOf_31 : decode cX4_operandsOf 31 = .ok (.iconst 1, 1) := by decide +kernel
theorem dX4_operandsOf_32 : decode cX4_operandsOf 32 = .ok (.goto 4, 3) := by decide +kernel
theorem dX4_operandsOf_35 : decode cX4_operandsOf 35 = .ok (.iconst 2, 1) := by decide +kernel
theorem dX4_operandsOf_36 : decode cX4_operandsOf 36 = .ok (.ireturn, 1) := by decide +kernel
def fX4_operandsOf_b31 (s : mS) : Option Int32 :=
  some (nI 1)

def fX4_operandsOf (x0 : Int32) (s : mS) : Option Int32 :=
  if 0 ≤ x0 then
    some (nI 0)
  else
    bO (fX8_isName (-x0) s) fun r1 =>
    if r1 = 0 then
      if x0 = (-1) then
        fX4_operandsOf_b31 s
      else
        if x0 = (-33) then
          fX4_operandsOf_b31 s
        else
          if x0 = (-2) then
            fX4_operandsOf_b31 s
          else
            some (nI 2)
    else
      some (nI 0)

set_option maxRecDepth 20000 in
theorem wX4_operandsOf_b31 {ρ : mRo} {d : Nat} {P : mPo} {V : mS → List mE} (hV : mView LC V)  {res : Int32} {s : mS} (hP : P (some (.int res)) (V s)) (hf : fX4_operandsOf_b31 s = some res) : mG ρ (mC ρ (d + 1)) 4 1 cX4_operandsOf (some .int) P 31 [] [] (V s) := by
  unfold fX4_operandsOf_b31 at hf
  refine e_iconst (w := (nI 1)) dX4_operandsOf_31 (by decide) ?_
  refine e_goto 36 dX4_operandsOf_32 (by decide) ?_
  obtain rfl := Option.some.inj hf
  exact e_iret dX4_operandsOf_36 trivial hP
set_option maxRecDepth 20000 in
theorem tX4_operandsOf {ρ : mRo} {d : Nat} {P : mPo} {V : mS → List mE} (hV : mView LC V)  {x0 : Int32} {s : mS} {res : Int32} (hf : fX4_operandsOf x0 s = some res) (hP : P (some (.int res)) (V s)) : mC ρ (d + 2) 22 [.int x0] (V s) P := by
  refine ⟨_, rfl, Nat.le_of_ble_eq_true rfl, by decide, ?_⟩
  show mG ρ (mC ρ (d + 1)) 4 1 cX4_operandsOf (some .int) P 0 [(0, .int x0)] [] (V s)
  unfold fX4_operandsOf at hf
  refine e_iload_n 0 dX4_operandsOf_0 rfl rfl ?_
  refine e_if_ge 12 dX4_operandsOf_1 (by decide) hf (fun hf => ?_) (fun hf => ?_)
  · refine e_iconst (w := (nI 0)) dX4_operandsOf_12 (by decide) ?_
    obtain rfl := Option.some.inj hf
    exact e_iret dX4_operandsOf_13 trivial hP
  · refine e_iload_n 0 dX4_operandsOf_4 rfl rfl ?_
    refine e_ineg dX4_operandsOf_5 ?_
    obtain ⟨r1, hg, hf⟩ := bO_some hf
    refine e_callS (as := [.int (-x0)]) (v := (some (.int r1))) (s' := s) dX4_operandsOf_6 rfl rfl rfl rfl rfl (Nat.le_of_ble_eq_true rfl) (fun Q hQ => tX8_isName (d := d) hV  hg hQ) ?_
    refine e_if_eq 14 dX4_operandsOf_9 (by decide) hf (fun hf => ?_) (fun hf => ?_)
    · refine e_iload_n 0 dX4_operandsOf_14 rfl rfl ?_
      refine e_iconst (w := (-1)) dX4_operandsOf_15 (by decide) ?_
      refine e_icmp_eq 31 dX4_operandsOf_16 (by decide) hf (fun hf => ?_) (fun hf => ?_)
      · refine e_pick [] rfl ?_
        exact wX4_operandsOf_b31 hV hP  hf
      · refine e_iload_n 0 dX4_operandsOf_19 rfl rfl ?_
        refine e_bipush (w := (-33)) dX4_operandsOf_20 (by decide) ?_
        refine e_icmp_eq 31 dX4_operandsOf_22 (by decide) hf (fun hf => ?_) (fun hf => ?_)
        · refine e_pick [] rfl ?_
          exact wX4_operandsOf_b31 hV hP  hf
        · refine e_iload_n 0 dX4_operandsOf_25 rfl rfl ?_
          refine e_bipush (w := (-2)) dX4_operandsOf_26 (by decide) ?_
          refine e_icmp_ne 35 dX4_operandsOf_28 (by decide) hf (fun hf => ?_) (fun hf => ?_)
          · refine e_iconst (w := (nI 2)) dX4_operandsOf_35 (by decide) ?_
            obtain rfl := Option.some.inj hf
            exact e_iret dX4_operandsOf_36 trivial hP
          · refine e_pick [] rfl ?_
            exact wX4_operandsOf_b31 hV hP  hf
    · refine e_iconst (w := (nI 0)) dX4_operandsOf_12 (by decide) ?_
      obtain rfl := Option.some.inj hf
      exact e_iret dX4_operandsOf_13 trivial hP
