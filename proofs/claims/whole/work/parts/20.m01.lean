-- bytecode to functions, by program (wip/gen/decomp.py)
theorem dX6_setNew_0 : decode cX6_setNew 0 = .ok (.aload_n 0, 1) := by decide +kernel
theorem dX6_setNew_1 : decode cX6_setNew 1 = .ok (.getfield 11, 3) := by decide +kernel
theorem dX6_setNew_4 : decode cX6_setNew 4 = .ok (.iconst 3, 1) := by decide +kernel
theorem dX6_setNew_5 : decode cX6_setNew 5 = .ok (.iload_n 1, 1) := by decide +kernel
theorem dX6_setNew_6 : decode cX6_setNew 6 = .ok (.imul, 1) := by decide +kernel
theorem dX6_setNew_7 : decode cX6_setNew 7 = .ok (.iload_n 2, 1) := by decide +kernel
theorem dX6_setNew_8 : decode cX6_setNew 8 = .ok (.iastore, 1) := by decide +kernel
theorem dX6_setNew_9 : decode cX6_setNew 9 = .ok (.aload_n 0, 1) := by decide +kernel
theorem dX6_setNew_10 : decode cX6_setNew 10 = .ok (.getfield 11, 3) := by decide +kernel
theorem dX6_setNew_13 : decode cX6_setNew 13 = .ok (.iconst 3, 1) := by decide +kernel
theorem dX6_setNew_14 : decode cX6_setNew 14 = .ok (.iload_n 1, 1) := by decide +kernel
theorem dX6_setNew_15 : decode cX6_setNew 15 = .ok (.imul, 1) := by decide +kernel
theorem dX6_setNew_16 : decode cX6_setNew 16 = .ok (.iconst 1, 1) := by decide +kernel
theorem dX6_setNew_17 : decode cX6_setNew 17 = .ok (.iadd, 1) := by decide +kernel
theorem dX6_setNew_18 : decode cX6_setNew 18 = .ok (.iload_n 3, 1) := by decide +kernel
theorem dX6_setNew_19 : decode cX6_setNew 19 = .ok (.iastore, 1) := by decide +kernel
theorem dX6_setNew_20 : decode cX6_setNew 20 = .ok (.aload_n 0, 1) := by decide +kernel
theorem dX6_setNew_21 : decode cX6_setNew 21 = .ok (.getfield 11, 3) := by decide +kernel
theorem dX6_setNew_24 : decode cX6_setNew 24 = .ok (.iconst 3, 1) := by decide +kernel
theorem dX6_setNew_25 : decode cX6_setNew 25 = .ok (.iload_n 1, 1) := by decide +kernel
theorem dX6_setNew_26 : decode cX6_setNew 26 = .ok (.imul, 1) := by decide +kernel
theorem dX6_setNew_27 : decode cX6_setNew 27 = .ok (.iconst 2, 1) := by decide +kernel
theorem dX6_setNew_28 : decode cX6_setNew 28 = .ok (.iadd, 1) := by decide +kernel
theorem dX6_setNew_29 : decode cX6_setNew 29 = .ok (.iload 4, 2) := by decide +kernel
theorem dX6_setNew_31 : decode cX6_setNew 31 = .ok (.iastore, 1) := by decide +kernel
theorem dX6_setNew_32 : decode cX6_setNew 32 = .ok (.aload_n 0, 1) := by decide +kernel
theorem dX6_setNew_33 : decode cX6_setNew 33 = .ok (.getfield 18, 3) := by decide +kernel
theorem dX6_setNew_36 : decode cX6_setNew 36 = .ok (.iload_n 1, 1) := by decide +kernel
theorem dX6_setNew_37 : decode cX6_setNew 37 = .ok (.iconst 0, 1) := by decide +kernel
theorem dX6_setNew_38 : decode cX6_setNew 38 = .ok (.iastore, 1) := by decide +kernel
theorem dX6_setNew_39 : decode cX6_setNew 39 = .ok (.return_, 1) := by decide +kernel
def fX6_setNew (k0 : Nat) (x1 : Int32) (x2 : Int32) (x3 : Int32) (x4 : Int32) (s : mS) : Option mS :=
  stA s (aM_pulls k0) 24 (3 * x1) x2 fun s1 =>
  stA s1 (aM_pulls k0) 24 ((3 * x1) + 1) x3 fun s2 =>
  stA s2 (aM_pulls k0) 24 ((3 * x1) + 2) x4 fun s3 =>
  stA s3 (aM_ages k0) 8 x1 0 fun s4 =>
  some s4

set_option maxRecDepth 20000 in
theorem tX6_setNew {ρ : mRo} {d : Nat} {P : mPo} {V : mS → List mE} (hV : mView LC V)  {k0 : Nat} (hk0 : k0 < 3) {x1 : Int32} {x2 : Int32} {x3 : Int32} {x4 : Int32} {s : mS} {res : mS} (hf : fX6_setNew k0 x1 x2 x3 x4 s = some res) (hP : P none (V res)) : mC ρ (d + 1) 28 [.ref (qM k0), .int x1, .int x2, .int x3, .int x4] (V s) P := by
  refine ⟨_, rfl, Nat.le_of_ble_eq_true rfl, by decide, ?_⟩
  show mG ρ (mC ρ d) 6 5 cX6_setNew none P 0 [(0, .ref (qM k0)), (1, .int x1), (2, .int x2), (3, .int x3), (4, .int x4)] [] (V s)
  unfold fX6_setNew at hf
  refine e_aload_n 0 dX6_setNew_0 rfl rfl ?_
  refine e_getr hV dX6_setNew_1 rfl (lc_M hk0) rfl ?_
  refine e_iconst (w := 3) dX6_setNew_4 (by decide) ?_
  refine e_iload_n 1 dX6_setNew_5 rfl rfl ?_
  refine e_imul dX6_setNew_6 ?_
  refine e_iload_n 2 dX6_setNew_7 rfl rfl ?_
  refine e_iast hV dX6_setNew_8 (lc_M_pulls hk0) hf (fun s1 hf => ?_)
  refine e_aload_n 0 dX6_setNew_9 rfl rfl ?_
  refine e_getr hV dX6_setNew_10 rfl (lc_M hk0) rfl ?_
  refine e_iconst (w := 3) dX6_setNew_13 (by decide) ?_
  refine e_iload_n 1 dX6_setNew_14 rfl rfl ?_
  refine e_imul dX6_setNew_15 ?_
  refine e_iconst (w := 1) dX6_setNew_16 (by decide) ?_
  refine e_iadd dX6_setNew_17 ?_
  refine e_iload_n 3 dX6_setNew_18 rfl rfl ?_
  refine e_iast hV dX6_setNew_19 (lc_M_pulls hk0) hf (fun s2 hf => ?_)
  refine e_aload_n 0 dX6_setNew_20 rfl rfl ?_
  refine e_getr hV dX6_setNew_21 rfl (lc_M hk0) rfl ?_
  refine e_iconst (w := 3) dX6_setNew_24 (by decide) ?_
  refine e_iload_n 1 dX6_setNew_25 rfl rfl ?_
  refine e_imul dX6_setNew_26 ?_
  refine e_iconst (w := 2) dX6_setNew_27 (by decide) ?_
  refine e_iadd dX6_setNew_28 ?_
  refine e_iload 4 dX6_setNew_29 rfl ?_
  refine e_iast hV dX6_setNew_31 (lc_M_pulls hk0) hf (fun s3 hf => ?_)
  refine e_aload_n 0 dX6_setNew_32 rfl rfl ?_
  refine e_getr hV dX6_setNew_33 rfl (lc_M hk0) rfl ?_
  refine e_iload_n 1 dX6_setNew_36 rfl rfl ?_
  refine e_iconst (w := 0) dX6_setNew_37 (by decide) ?_
  refine e_iast hV dX6_setNew_38 (lc_M_ages hk0) hf (fun s4 hf => ?_)
  cases hf
  exact e_ret dX6_setNew_39 rfl hP

theorem dX6_join_0 : decode cX6_join 0 = .ok (.aload_n 0, 1) := by decide +kernel
theorem dX6_join_1 : decode cX6_join 1 = .ok (.dup, 1) := by decide +kernel
theorem dX6_join_2 : decode cX6_join 2 = .ok (.getfield 25, 3) := by decide +kernel
theorem dX6_join_5 : decode cX6_join 5 = .ok (.iconst 1, 1) := by decide +kernel
theorem dX6_join_6 : decode cX6_join 6 = .ok (.iadd, 1) := by decide +kernel
theorem dX6_join_7 : decode cX6_join 7 = .ok (.putfield 25, 3) := by decide +kernel
theorem dX6_join_10 : decode cX6_join 10 = .ok (.aload_n 0, 1) := by decide +kernel
theorem dX6_join_11 : decode cX6_join 11 = .ok (.aload_n 0, 1) := by decide +kernel
theorem dX6_join_12 : decode cX6_join 12 = .ok (.getfield 25, 3) := by decide +kernel
theorem dX6_join_15 : decode cX6_join 15 = .ok (.iconst 1, 1) := by decide +kernel
theorem dX6_join_16 : decode cX6_join 16 = .ok (.isub, 1) := by decide +kernel
theorem dX6_join_17 : decode cX6_join 17 = .ok (.iload_n 1, 1) := by decide +kernel
theorem dX6_join_18 : decode cX6_join 18 = .ok (.iload_n 2, 1) := by decide +kernel
theorem dX6_join_19 : decode cX6_join 19 = .ok (.iload_n 3, 1) := by decide +kernel
theorem dX6_join_20 : decode cX6_join 20 = .ok (.invokevirtual 28, 3) := by decide +kernel
theorem dX6_join_23 : decode cX6_join 23 = .ok (.aload_n 0, 1) := by decide +kernel
theorem dX6_join_24 : decode cX6_join 24 = .ok (.getfield 25, 3) := by decide +kernel
theorem dX6_join_27 : decode cX6_join 27 = .ok (.iconst 1, 1) := by decide +kernel
theorem dX6_join_28 : decode cX6_join 28 = .ok (.isub, 1) := by decide +kernel
theorem dX6_join_29 : decode cX6_join 29 = .ok (.ireturn, 1) := by decide +kernel
def fX6_join (k0 : Nat) (x1 : Int32) (x2 : Int32) (x3 : Int32) (s : mS) : Option (Int32 × mS) :=
  bnd (pI s (iM_size k0) ((gI s (iM_size k0)) + 1)) fun s1 =>
  bO (fX6_setNew k0 ((gI s1 (iM_size k0)) - 1) x1 x2 x3 s1) fun s2 =>
  some ((gI s2 (iM_size k0)) - 1, s2)

set_option maxRecDepth 20000 in
theorem tX6_join {ρ : mRo} {d : Nat} {P : mPo} {V : mS → List mE} (hV : mView LC V)  {k0 : Nat} (hk0 : k0 < 3) {x1 : Int32} {x2 : Int32} {x3 : Int32} {s : mS} {res : (Int32 × mS)} (hf : fX6_join k0 x1 x2 x3 s = some res) (hP : P (some (.int res.1)) (V res.2)) : mC ρ (d + 2) 27 [.ref (qM k0), .int x1, .int x2, .int x3] (V s) P := by
  refine ⟨_, rfl, Nat.le_of_ble_eq_true rfl, by decide, ?_⟩
  show mG ρ (mC ρ (d + 1)) 6 4 cX6_join (some .int) P 0 [(0, .ref (qM k0)), (1, .int x1), (2, .int x2), (3, .int x3)] [] (V s)
  unfold fX6_join at hf
  refine e_aload_n 0 dX6_join_0 rfl rfl ?_
  refine e_dup dX6_join_1 rfl ?_
  refine e_geti hV dX6_join_2 rfl (lc_M hk0) rfl ?_
  refine e_iconst (w := 1) dX6_join_5 (by decide) ?_
  refine e_iadd dX6_join_6 ?_
  refine e_puti hV dX6_join_7 rfl rfl rfl (Or.inl rfl) (lc_M hk0) rfl hf (fun s1 hf => ?_)
  refine e_aload_n 0 dX6_join_10 rfl rfl ?_
  refine e_aload_n 0 dX6_join_11 rfl rfl ?_
  refine e_geti hV dX6_join_12 rfl (lc_M hk0) rfl ?_
  refine e_iconst (w := 1) dX6_join_15 (by decide) ?_
  refine e_isub dX6_join_16 ?_
  refine e_iload_n 1 dX6_join_17 rfl rfl ?_
  refine e_iload_n 2 dX6_join_18 rfl rfl ?_
  refine e_iload_n 3 dX6_join_19 rfl rfl ?_
  obtain ⟨s2, hg, hf⟩ := bO_some hf
  refine e_callV (as := [.int ((gI s1 (iM_size k0)) - 1), .int x1, .int x2, .int x3]) (v := none) (s' := s2) hV dX6_join_20 (Or.inl rfl) rfl rfl rfl rfl (Nat.le_of_ble_eq_true rfl) (lc_M hk0) rfl rfl (fun Q hQ => tX6_setNew (d := d) hV hk0 hg hQ) ?_
  refine e_aload_n 0 dX6_join_23 rfl rfl ?_
  refine e_geti hV dX6_join_24 rfl (lc_M hk0) rfl ?_
  refine e_iconst (w := 1) dX6_join_27 (by decide) ?_
  refine e_isub dX6_join_28 ?_
  cases hf
  exact e_iret dX6_join_29 trivial hP

theorem dX6_pull_0 : decode cX6_pull 0 = .ok (.aload_n 0, 1) := by decide +kernel
theorem dX6_pull_1 : decode cX6_pull 1 = .ok (.getfield 11, 3) := by decide +kernel
theorem dX6_pull_4 : decode cX6_pull 4 = .ok (.iconst 3, 1) := by decide +kernel
theorem dX6_pull_5 : decode cX6_pull 5 = .ok (.iload_n 1, 1) := by decide +kernel
theorem dX6_pull_6 : decode cX6_pull 6 = .ok (.imul, 1) := by decide +kernel
theorem dX6_pull_7 : decode cX6_pull 7 = .ok (.iload_n 2, 1) := by decide +kernel
theorem dX6_pull_8 : decode cX6_pull 8 = .ok (.iadd, 1) := by decide +kernel
theorem dX6_pull_9 : decode cX6_pull 9 = .ok (.iaload, 1) := by decide +kernel
theorem dX6_pull_10 : decode cX6_pull 10 = .ok (.ireturn, 1) := by decide +kernel
def fX6_pull (k0 : Nat) (x1 : Int32) (x2 : Int32) (s : mS) : Option Int32 :=
  ldA s (aM_pulls k0) 24 ((3 * x1) + x2) fun v1 =>
  some v1

set_option maxRecDepth 20000 in
theorem tX6_pull {ρ : mRo} {d : Nat} {P : mPo} {V : mS → List mE} (hV : mView LC V)  {k0 : Nat} (hk0 : k0 < 3) {x1 : Int32} {x2 : Int32} {s : mS} {res : Int32} (hf : fX6_pull k0 x1 x2 s = some res) (hP : P (some (.int res)) (V s)) : mC ρ (d + 1) 29 [.ref (qM k0), .int x1, .int x2] (V s) P := by
  refine ⟨_, rfl, Nat.le_of_ble_eq_true rfl, by decide, ?_⟩
  show mG ρ (mC ρ d) 6 3 cX6_pull (some .int) P 0 [(0, .ref (qM k0)), (1, .int x1), (2, .int x2)] [] (V s)
  unfold fX6_pull at hf
  refine e_aload_n 0 dX6_pull_0 rfl rfl ?_
  refine e_getr hV dX6_pull_1 rfl (lc_M hk0) rfl ?_
  refine e_iconst (w := 3) dX6_pull_4 (by decide) ?_
  refine e_iload_n 1 dX6_pull_5 rfl rfl ?_
  refine e_imul dX6_pull_6 ?_
  refine e_iload_n 2 dX6_pull_7 rfl rfl ?_
  refine e_iadd dX6_pull_8 ?_
  refine e_iald hV dX6_pull_9 (lc_M_pulls hk0) hf (fun v1 hf => ?_)
  cases hf
  exact e_iret dX6_pull_10 trivial hP

theorem dX6_pullCode_0 : decode cX6_pullCode 0 = .ok (.aload_n 0, 1) := by decide +kernel
theorem dX6_pullCode_1 : decode cX6_pullCode 1 = .ok (.iload_n 1, 1) := by decide +kernel
theorem dX6_pullCode_2 : decode cX6_pullCode 2 = .ok (.iconst 0, 1) := by decide +kernel
theorem dX6_pullCode_3 : decode cX6_pullCode 3 = .ok (.invokevirtual 32, 3) := by decide +kernel
theorem dX6_pullCode_6 : decode cX6_pullCode 6 = .ok (.aload_n 0, 1) := by decide +kernel
theorem dX6_pullCode_7 : decode cX6_pullCode 7 = .ok (.iload_n 1, 1) := by decide +kernel
theorem dX6_pullCode_8 : decode cX6_pullCode 8 = .ok (.iconst 1, 1) := by decide +kernel
theorem dX6_pullCode_9 : decode cX6_pullCode 9 = .ok (.invokevirtual 32, 3) := by decide +kernel
theorem dX6_pullCode_12 : decode cX6_pullCode 12 = .ok (.aload_n 0, 1) := by decide +kernel
theorem dX6_pullCode_13 : decode cX6_pullCode 13 = .ok (.iload_n 1, 1) := by decide +kernel
theorem dX6_pullCode_14 : decode cX6_pullCode 14 = .ok (.iconst 2, 1) := by decide +kernel
theorem dX6_pullCode_15 : decode cX6_pullCode 15 = .ok (.invokevirtual 32, 3) := by decide +kernel
theorem dX6_pullCode_18 : decode cX6_pullCode 18 = .ok (.invokestatic 36, 3) := by decide +kernel
theorem dX6_pullCode_21 : decode cX6_pullCode 21 = .ok (.ireturn, 1) := by decide +kernel
def fX6_pullCode (k0 : Nat) (x1 : Int32) (s : mS) : Option Int32 :=
  bO (fX6_pull k0 x1 0 s) fun r1 =>
  bO (fX6_pull k0 x1 1 s) fun r2 =>
  bO (fX6_pull k0 x1 2 s) fun r3 =>
  bO (fX2_code r1 r2 r3 s) fun r4 =>
  some r4

set_option maxRecDepth 20000 in
theorem tX6_pullCode {ρ : mRo} {d : Nat} {P : mPo} {V : mS → List mE} (hV : mView LC V)  {k0 : Nat} (hk0 : k0 < 3) {x1 : Int32} {s : mS} {res : Int32} (hf : fX6_pullCode k0 x1 s = some res) (hP : P (some (.int res)) (V s)) : mC ρ (d + 2) 30 [.ref (qM k0), .int x1] (V s) P := by
  refine ⟨_, rfl, Nat.le_of_ble_eq_true rfl, by decide, ?_⟩
  show mG ρ (mC ρ (d + 1)) 6 2 cX6_pullCode (some .int) P 0 [(0, .ref (qM k0)), (1, .int x1)] [] (V s)
  unfold fX6_pullCode at hf
  refine e_aload_n 0 dX6_pullCode_0 rfl rfl ?_
  refine e_iload_n 1 dX6_pullCode_1 rfl rfl ?_
  refine e_iconst (w := 0) dX6_pullCode_2 (by decide) ?_
  obtain ⟨r1, hg, hf⟩ := bO_some hf
  refine e_callV (as := [.int x1, .int 0]) (v := (some (.int r1))) (s' := s) hV dX6_pullCode_3 (Or.inl rfl) rfl rfl rfl rfl (Nat.le_of_ble_eq_true rfl) (lc_M hk0) rfl rfl (fun Q hQ => tX6_pull (d := d) hV hk0 hg hQ) ?_
  refine e_aload_n 0 dX6_pullCode_6 rfl rfl ?_
  refine e_iload_n 1 dX6_pullCode_7 rfl rfl ?_
  refine e_iconst (w := 1) dX6_pullCode_8 (by decide) ?_
  obtain ⟨r2, hg, hf⟩ := bO_some hf
  refine e_callV (as := [.int x1, .int 1]) (v := (some (.int r2))) (s' := s) hV dX6_pullCode_9 (Or.inl rfl) rfl rfl rfl rfl (Nat.le_of_ble_eq_true rfl) (lc_M hk0) rfl rfl (fun Q hQ => tX6_pull (d := d) hV hk0 hg hQ) ?_
  refine e_aload_n 0 dX6_pullCode_12 rfl rfl ?_
  refine e_iload_n 1 dX6_pullCode_13 rfl rfl ?_
  refine e_iconst (w := 2) dX6_pullCode_14 (by decide) ?_
  obtain ⟨r3, hg, hf⟩ := bO_some hf
  refine e_callV (as := [.int x1, .int 2]) (v := (some (.int r3))) (s' := s) hV dX6_pullCode_15 (Or.inl rfl) rfl rfl rfl rfl (Nat.le_of_ble_eq_true rfl) (lc_M hk0) rfl rfl (fun Q hQ => tX6_pull (d := d) hV hk0 hg hQ) ?_
  obtain ⟨r4, hg, hf⟩ := bO_some hf
  refine e_callS (as := [.int r1, .int r2, .int r3]) (v := (some (.int r4))) (s' := s) dX6_pullCode_18 rfl rfl rfl rfl rfl (Nat.le_of_ble_eq_true rfl) (fun Q hQ => tX2_code (d := d) hV  hg hQ) ?_
  cases hf
  exact e_iret dX6_pullCode_21 trivial hP

theorem dX6_layBack_0 : decode cX6_layBack 0 = .ok (.aload_n 1, 1) := by decide +kernel
theorem dX6_layBack_1 : decode cX6_layBack 1 = .ok (.getfield 11, 3) := by decide +kernel
theorem dX6_layBack_4 : decode cX6_layBack 4 = .ok (.iconst 0, 1) := by decide +kernel
theorem dX6_layBack_5 : decode cX6_layBack 5 = .ok (.aload_n 0, 1) := by decide +kernel
theorem dX6_layBack_6 : decode cX6_layBack 6 = .ok (.getfield 11, 3) := by decide +kernel
theorem dX6_layBack_9 : decode cX6_layBack 9 = .ok (.iconst 0, 1) := by decide +kernel
theorem dX6_layBack_10 : decode cX6_layBack 10 = .ok (.iconst 3, 1) := by decide +kernel
theorem dX6_layBack_11 : decode cX6_layBack 11 = .ok (.aload_n 1, 1) := by decide +kernel
theorem dX6_layBack_12 : decode cX6_layBack 12 = .ok (.getfield 25, 3) := by decide +kernel
theorem dX6_layBack_15 : decode cX6_layBack 15 = .ok (.imul, 1) := by decide +kernel
theorem dX6_layBack_16 : decode cX6_layBack 16 = .ok (.invokestatic 44, 3) := by decide +kernel
theorem dX6_layBack_19 : decode cX6_layBack 19 = .ok (.aload_n 1, 1) := by decide +kernel
theorem dX6_layBack_20 : decode cX6_layBack 20 = .ok (.getfield 18, 3) := by decide +kernel
theorem dX6_layBack_23 : decode cX6_layBack 23 = .ok (.iconst 0, 1) := by decide +kernel
theorem dX6_layBack_24 : decode cX6_layBack 24 = .ok (.aload_n 0, 1) := by decide +kernel
theorem dX6_layBack_25 : decode cX6_layBack 25 = .ok (.getfield 18, 3) := by decide +kernel
theorem dX6_layBack_28 : decode cX6_layBack 28 = .ok (.iconst 0, 1) := by decide +kernel
theorem dX6_layBack_29 : decode cX6_layBack 29 = .ok (.aload_n 1, 1) := by decide +kernel
theorem dX6_layBack_30 : decode cX6_layBack 30 = .ok (.getfield 25, 3) := by decide +kernel
theorem dX6_layBack_33 : decode cX6_layBack 33 = .ok (.invokestatic 44, 3) := by decide +kernel
theorem dX6_layBack_36 : decode cX6_layBack 36 = .ok (.return_, 1) := by decide +kernel
def fX6_layBack (k0 : Nat) (k1 : Nat) (s : mS) : Option mS :=
  cpA s (aM_pulls k1) 24 (aM_pulls k0) 24 0 0 (3 * (gI s (iM_size k1))) fun s1 =>
  cpA s1 (aM_ages k1) 8 (aM_ages k0) 8 0 0 (gI s1 (iM_size k1)) fun s2 =>
  some s2

set_option maxRecDepth 20000 in
theorem tX6_layBack {ρ : mRo} {d : Nat} {P : mPo} {V : mS → List mE} (hV : mView LC V)  {k0 : Nat} (hk0 : k0 < 3) {k1 : Nat} (hk1 : k1 < 3) {s : mS} {res : mS} (hf : fX6_layBack k0 k1 s = some res) (hP : P none (V res)) : mC ρ (d + 1) 32 [.ref (qM k0), .ref (qM k1)] (V s) P := by
  refine ⟨_, rfl, Nat.le_of_ble_eq_true rfl, by decide, ?_⟩
  show mG ρ (mC ρ d) 6 2 cX6_layBack none P 0 [(0, .ref (qM k0)), (1, .ref (qM k1))] [] (V s)
  unfold fX6_layBack at hf
  refine e_aload_n 1 dX6_layBack_0 rfl rfl ?_
  refine e_getr hV dX6_layBack_1 rfl (lc_M hk1) rfl ?_
  refine e_iconst (w := 0) dX6_layBack_4 (by decide) ?_
  refine e_aload_n 0 dX6_layBack_5 rfl rfl ?_
  refine e_getr hV dX6_layBack_6 rfl (lc_M hk0) rfl ?_
  refine e_iconst (w := 0) dX6_layBack_9 (by decide) ?_
  refine e_iconst (w := 3) dX6_layBack_10 (by decide) ?_
  refine e_aload_n 1 dX6_layBack_11 rfl rfl ?_
  refine e_geti hV dX6_layBack_12 rfl (lc_M hk1) rfl ?_
  refine e_imul dX6_layBack_15 ?_
  refine e_cpA hV dX6_layBack_16 (by decide) (Nat.le_of_ble_eq_true rfl) (lc_M_pulls hk1) (lc_M_pulls hk0) hf (fun s1 hf => ?_)
  refine e_aload_n 1 dX6_layBack_19 rfl rfl ?_
  refine e_getr hV dX6_layBack_20 rfl (lc_M hk1) rfl ?_
  refine e_iconst (w := 0) dX6_layBack_23 (by decide) ?_
  refine e_aload_n 0 dX6_layBack_24 rfl rfl ?_
  refine e_getr hV dX6_layBack_25 rfl (lc_M hk0) rfl ?_
  refine e_iconst (w := 0) dX6_layBack_28 (by decide) ?_
  refine e_aload_n 1 dX6_layBack_29 rfl rfl ?_
  refine e_geti hV dX6_layBack_30 rfl (lc_M hk1) rfl ?_
  refine e_cpA hV dX6_layBack_33 (by decide) (Nat.le_of_ble_eq_true rfl) (lc_M_ages hk1) (lc_M_ages hk0) hf (fun s2 hf => ?_)
  cases hf
  exact e_ret dX6_layBack_36 rfl hP

theorem dX6_copy_0 : decode cX6_copy 0 = .ok (.aload_n 0, 1) := by decide +kernel
theorem dX6_copy_1 : decode cX6_copy 1 = .ok (.aload_n 1, 1) := by decide +kernel
theorem dX6_copy_2 : decode cX6_copy 2 = .ok (.invokevirtual 40, 3) := by decide +kernel
theorem dX6_copy_5 : decode cX6_copy 5 = .ok (.aload_n 0, 1) := by decide +kernel
theorem dX6_copy_6 : decode cX6_copy 6 = .ok (.aload_n 1, 1) := by decide +kernel
theorem dX6_copy_7 : decode cX6_copy 7 = .ok (.getfield 25, 3) := by decide +kernel
theorem dX6_copy_10 : decode cX6_copy 10 = .ok (.putfield 25, 3) := by decide +kernel
theorem dX6_copy_13 : decode cX6_copy 13 = .ok (.aload_n 0, 1) := by decide +kernel
theorem dX6_copy_14 : decode cX6_copy 14 = .ok (.aload_n 1, 1) := by decide +kernel
theorem dX6_copy_15 : decode cX6_copy 15 = .ok (.getfield 21, 3) := by decide +kernel
theorem dX6_copy_18 : decode cX6_copy 18 = .ok (.putfield 21, 3) := by decide +kernel
theorem dX6_copy_21 : decode cX6_copy 21 = .ok (.return_, 1) := by decide +kernel
def fX6_copy (k0 : Nat) (k1 : Nat) (s : mS) : Option mS :=
  bO (fX6_layBack k0 k1 s) fun s1 =>
  bnd (pI s1 (iM_size k0) (gI s1 (iM_size k1))) fun s2 =>
  bnd (pI s2 (iM_ribbon k0) (gI s2 (iM_ribbon k1))) fun s3 =>
  some s3

set_option maxRecDepth 20000 in
theorem tX6_copy {ρ : mRo} {d : Nat} {P : mPo} {V : mS → List mE} (hV : mView LC V)  {k0 : Nat} (hk0 : k0 < 3) {k1 : Nat} (hk1 : k1 < 3) {s : mS} {res : mS} (hf : fX6_copy k0 k1 s = some res) (hP : P none (V res)) : mC ρ (d + 2) 31 [.ref (qM k0), .ref (qM k1)] (V s) P := by
  refine ⟨_, rfl, Nat.le_of_ble_eq_true rfl, by decide, ?_⟩
  show mG ρ (mC ρ (d + 1)) 6 2 cX6_copy none P 0 [(0, .ref (qM k0)), (1, .ref (qM k1))] [] (V s)
  unfold fX6_copy at hf
  refine e_aload_n 0 dX6_copy_0 rfl rfl ?_
  refine e_aload_n 1 dX6_copy_1 rfl rfl ?_
  obtain ⟨s1, hg, hf⟩ := bO_some hf
  refine e_callV (as := [.ref (qM k1)]) (v := none) (s' := s1) hV dX6_copy_2 (Or.inl rfl) rfl rfl rfl rfl (Nat.le_of_ble_eq_true rfl) (lc_M hk0) rfl rfl (fun Q hQ => tX6_layBack (d := d) hV hk0 hk1 hg hQ) ?_
  refine e_aload_n 0 dX6_copy_5 rfl rfl ?_
  refine e_aload_n 1 dX6_copy_6 rfl rfl ?_
  refine e_geti hV dX6_copy_7 rfl (lc_M hk1) rfl ?_
  refine e_puti hV dX6_copy_10 rfl rfl rfl (Or.inl rfl) (lc_M hk0) rfl hf (fun s2 hf => ?_)
  refine e_aload_n 0 dX6_copy_13 rfl rfl ?_
  refine e_aload_n 1 dX6_copy_14 rfl rfl ?_
  refine e_geti hV dX6_copy_15 rfl (lc_M hk1) rfl ?_
  refine e_puti hV dX6_copy_18 rfl rfl rfl (Or.inl rfl) (lc_M hk0) rfl hf (fun s3 hf => ?_)
  cases hf
  exact e_ret dX6_copy_21 rfl hP

theorem dX6_markPulls_0 : decode cX6_markPulls 0 = .ok (.aload_n 0, 1) := by decide +kernel
theorem dX6_markPulls_1 : decode cX6_markPulls 1 = .ok (.getfield 11, 3) := by decide +kernel
theorem dX6_markPulls_4 : decode cX6_markPulls 4 = .ok (.iconst 0, 1) := by decide +kernel
theorem dX6_markPulls_5 : decode cX6_markPulls 5 = .ok (.aload_n 0, 1) := by decide +kernel
theorem dX6_markPulls_6 : decode cX6_markPulls 6 = .ok (.getfield 15, 3) := by decide +kernel
theorem dX6_markPulls_9 : decode cX6_markPulls 9 = .ok (.iconst 0, 1) := by decide +kernel
theorem dX6_markPulls_10 : decode cX6_markPulls 10 = .ok (.iconst 3, 1) := by decide +kernel
theorem dX6_markPulls_11 : decode cX6_markPulls 11 = .ok (.aload_n 0, 1) := by decide +kernel
theorem dX6_markPulls_12 : decode cX6_markPulls 12 = .ok (.getfield 25, 3) := by decide +kernel
theorem dX6_markPulls_15 : decode cX6_markPulls 15 = .ok (.imul, 1) := by decide +kernel
theorem dX6_markPulls_16 : decode cX6_markPulls 16 = .ok (.invokestatic 44, 3) := by decide +kernel
theorem dX6_markPulls_19 : decode cX6_markPulls 19 = .ok (.return_, 1) := by decide +kernel
def fX6_markPulls (k0 : Nat) (s : mS) : Option mS :=
  cpA s (aM_pulls k0) 24 (aM_marks k0) 24 0 0 (3 * (gI s (iM_size k0))) fun s1 =>
  some s1

set_option maxRecDepth 20000 in
theorem tX6_markPulls {ρ : mRo} {d : Nat} {P : mPo} {V : mS → List mE} (hV : mView LC V)  {k0 : Nat} (hk0 : k0 < 3) {s : mS} {res : mS} (hf : fX6_markPulls k0 s = some res) (hP : P none (V res)) : mC ρ (d + 1) 33 [.ref (qM k0)] (V s) P := by
  refine ⟨_, rfl, Nat.le_of_ble_eq_true rfl, by decide, ?_⟩
  show mG ρ (mC ρ d) 6 1 cX6_markPulls none P 0 [(0, .ref (qM k0))] [] (V s)
  unfold fX6_markPulls at hf
  refine e_aload_n 0 dX6_markPulls_0 rfl rfl ?_
  refine e_getr hV dX6_markPulls_1 rfl (lc_M hk0) rfl ?_
  refine e_iconst (w := 0) dX6_markPulls_4 (by decide) ?_
  refine e_aload_n 0 dX6_markPulls_5 rfl rfl ?_
  refine e_getr hV dX6_markPulls_6 rfl (lc_M hk0) rfl ?_
  refine e_iconst (w := 0) dX6_markPulls_9 (by decide) ?_
  refine e_iconst (w := 3) dX6_markPulls_10 (by decide) ?_
  refine e_aload_n 0 dX6_markPulls_11 rfl rfl ?_
  refine e_geti hV dX6_markPulls_12 rfl (lc_M hk0) rfl ?_
  refine e_imul dX6_markPulls_15 ?_
  refine e_cpA hV dX6_markPulls_16 (by decide) (Nat.le_of_ble_eq_true rfl) (lc_M_pulls hk0) (lc_M_marks hk0) hf (fun s1 hf => ?_)
  cases hf
  exact e_ret dX6_markPulls_19 rfl hP

theorem dX6_haveMoved_0 : decode cX6_haveMoved 0 = .ok (.iconst 0, 1) := by decide +kernel
theorem dX6_haveMoved_1 : decode cX6_haveMoved 1 = .ok (.istore_n 1, 1) := by decide +kernel
theorem dX6_haveMoved_2 : decode cX6_haveMoved 2 = .ok (.iload_n 1, 1) := by decide +kernel
theorem dX6_haveMoved_3 : decode cX6_haveMoved 3 = .ok (.iconst 3, 1) := by decide +kernel
theorem dX6_haveMoved_4 : decode cX6_haveMoved 4 = .ok (.aload_n 0, 1) := by decide +kernel
theorem dX6_haveMoved_5 : decode cX6_haveMoved 5 = .ok (.getfield 25, 3) := by decide +kernel
theorem dX6_haveMoved_8 : decode cX6_haveMoved 8 = .ok (.imul, 1) := by decide +kernel
theorem dX6_haveMoved_9 : decode cX6_haveMoved 9 = .ok (.if_icmp .ge 26, 3) := by decide +kernel
theorem dX6_haveMoved_12 : decode cX6_haveMoved 12 = .ok (.aload_n 0, 1) := by decide +kernel
theorem dX6_haveMoved_13 : decode cX6_haveMoved 13 = .ok (.getfield 11, 3) := by decide +kernel
theorem dX6_haveMoved_16 : decode cX6_haveMoved 16 = .ok (.iload_n 1, 1) := by decide +kernel
theorem dX6_haveMoved_17 : decode cX6_haveMoved 17 = .ok (.iaload, 1) := by decide +kernel
theorem dX6_haveMoved_18 : decode cX6_haveMoved 18 = .ok (.aload_n 0, 1) := by decide +kernel
theorem dX6_haveMoved_19 : decode cX6_haveMoved 19 = .ok (.getfield 15, 3) := by decide +kernel
theorem dX6_haveMoved_22 : decode cX6_haveMoved 22 = .ok (.iload_n 1, 1) := by decide +kernel
theorem dX6_haveMoved_23 : decode cX6_haveMoved 23 = .ok (.iaload, 1) := by decide +kernel
theorem dX6_haveMoved_24 : decode cX6_haveMoved 24 = .ok (.if_icmp .eq 5, 3) := by decide +kernel
theorem dX6_haveMoved_27 : decode cX6_haveMoved 27 = .ok (.iconst 1, 1) := by decide +kernel
theorem dX6_haveMoved_28 : decode cX6_haveMoved 28 = .ok (.ireturn, 1) := by decide +kernel
theorem dX6_haveMoved_29 : decode cX6_haveMoved 29 = .ok (.iinc 1 1, 3) := by decide +kernel
theorem dX6_haveMoved_32 : decode cX6_haveMoved 32 = .ok (.goto (-30), 3) := by decide +kernel
theorem dX6_haveMoved_35 : decode cX6_haveMoved 35 = .ok (.iconst 0, 1) := by decide +kernel
theorem dX6_haveMoved_36 : decode cX6_haveMoved 36 = .ok (.ireturn, 1) := by decide +kernel
def fX6_haveMoved_b2 : Nat → Nat → Int32 → mS → Option Int32
  | 0, _, _, _ => none
  | k + 1, k0, y1, s =>
    if (3 * (gI s (iM_size k0))) ≤ y1 then
      some 0
    else
      ldA s (aM_pulls k0) 24 y1 fun v2 =>
      ldA s (aM_marks k0) 24 y1 fun v3 =>
      if v2 = v3 then
        bnd (y1 + 1) fun v4 =>
        fX6_haveMoved_b2 k k0 v4 s
      else
        some 1

def fX6_haveMoved (k0 : Nat) (s : mS) : Option Int32 :=
  bnd 0 fun v1 =>
  fX6_haveMoved_b2 mFu k0 v1 s

set_option maxRecDepth 20000 in
theorem wX6_haveMoved_b2 {ρ : mRo} {d : Nat} {P : mPo} {V : mS → List mE} (hV : mView LC V)  {res : Int32} {s : mS} (hP : P (some (.int res)) (V s)) : ∀ (k : Nat) (k0 : Nat) (hk0 : k0 < 3) (y1 : Int32), fX6_haveMoved_b2 k k0 y1 s = some res → mG ρ (mC ρ d) 6 2 cX6_haveMoved (some .boolean) P 2 [(0, .ref (qM k0)), (1, .int y1)] [] (V s) := by
  intro k
  induction k with
  | zero => intro k0 hk0 y1 hf; rw [fX6_haveMoved_b2] at hf; cases hf
  | succ k ih =>
    intro k0 hk0 y1 hf
    rw [fX6_haveMoved_b2] at hf
    refine e_iload_n 1 dX6_haveMoved_2 rfl rfl ?_
    refine e_iconst (w := 3) dX6_haveMoved_3 (by decide) ?_
    refine e_aload_n 0 dX6_haveMoved_4 rfl rfl ?_
    refine e_geti hV dX6_haveMoved_5 rfl (lc_M hk0) rfl ?_
    refine e_imul dX6_haveMoved_8 ?_
    refine e_icmp_ge 35 dX6_haveMoved_9 (by decide) hf (fun hf => ?_) (fun hf => ?_)
    · refine e_iconst (w := 0) dX6_haveMoved_35 (by decide) ?_
      cases hf
      exact e_iret dX6_haveMoved_36 (Or.inl rfl) hP
    · refine e_aload_n 0 dX6_haveMoved_12 rfl rfl ?_
      refine e_getr hV dX6_haveMoved_13 rfl (lc_M hk0) rfl ?_
      refine e_iload_n 1 dX6_haveMoved_16 rfl rfl ?_
      refine e_iald hV dX6_haveMoved_17 (lc_M_pulls hk0) hf (fun v2 hf => ?_)
      refine e_aload_n 0 dX6_haveMoved_18 rfl rfl ?_
      refine e_getr hV dX6_haveMoved_19 rfl (lc_M hk0) rfl ?_
      refine e_iload_n 1 dX6_haveMoved_22 rfl rfl ?_
      refine e_iald hV dX6_haveMoved_23 (lc_M_marks hk0) hf (fun v3 hf => ?_)
      refine e_icmp_eq 29 dX6_haveMoved_24 (by decide) hf (fun hf => ?_) (fun hf => ?_)
      · refine e_iinc 1 dX6_haveMoved_29 rfl rfl hf (fun v4 hf => ?_)
        refine e_goto 2 dX6_haveMoved_32 (by decide) ?_
        refine e_pick [1, 0] rfl ?_
        exact ih k0 hk0 v4 hf
      · refine e_iconst (w := 1) dX6_haveMoved_27 (by decide) ?_
        cases hf
        exact e_iret dX6_haveMoved_28 (Or.inr rfl) hP
set_option maxRecDepth 20000 in
theorem tX6_haveMoved {ρ : mRo} {d : Nat} {P : mPo} {V : mS → List mE} (hV : mView LC V)  {k0 : Nat} (hk0 : k0 < 3) {s : mS} {res : Int32} (hf : fX6_haveMoved k0 s = some res) (hP : P (some (.int res)) (V s)) : mC ρ (d + 1) 34 [.ref (qM k0)] (V s) P := by
  refine ⟨_, rfl, Nat.le_of_ble_eq_true rfl, by decide, ?_⟩
  show mG ρ (mC ρ d) 6 2 cX6_haveMoved (some .boolean) P 0 [(0, .ref (qM k0))] [] (V s)
  unfold fX6_haveMoved at hf
  refine e_iconst (w := 0) dX6_haveMoved_0 (by decide) ?_
  refine e_istore_n dX6_haveMoved_1 rfl (by decide) hf (fun v1 hf => ?_)
  refine e_pick [1, 0] rfl ?_
  exact wX6_haveMoved_b2 hV hP mFu k0 hk0 v1 hf

theorem dX6_passNight_0 : decode cX6_passNight 0 = .ok (.aload_n 0, 1) := by decide +kernel
theorem dX6_passNight_1 : decode cX6_passNight 1 = .ok (.invokevirtual 50, 3) := by decide +kernel
theorem dX6_passNight_4 : decode cX6_passNight 4 = .ok (.iconst 3, 1) := by decide +kernel
theorem dX6_passNight_5 : decode cX6_passNight 5 = .ok (.aload_n 0, 1) := by decide +kernel
theorem dX6_passNight_6 : decode cX6_passNight 6 = .ok (.getfield 25, 3) := by decide +kernel
theorem dX6_passNight_9 : decode cX6_passNight 9 = .ok (.imul, 1) := by decide +kernel
theorem dX6_passNight_10 : decode cX6_passNight 10 = .ok (.istore_n 1, 1) := by decide +kernel
theorem dX6_passNight_11 : decode cX6_passNight 11 = .ok (.iconst 0, 1) := by decide +kernel
theorem dX6_passNight_12 : decode cX6_passNight 12 = .ok (.istore_n 2, 1) := by decide +kernel
theorem dX6_passNight_13 : decode cX6_passNight 13 = .ok (.iload_n 2, 1) := by decide +kernel
theorem dX6_passNight_14 : decode cX6_passNight 14 = .ok (.iload_n 1, 1) := by decide +kernel
theorem dX6_passNight_15 : decode cX6_passNight 15 = .ok (.if_icmp .ge 49, 3) := by decide +kernel
theorem dX6_passNight_18 : decode cX6_passNight 18 = .ok (.iload_n 2, 1) := by decide +kernel
theorem dX6_passNight_19 : decode cX6_passNight 19 = .ok (.iconst 3, 1) := by decide +kernel
theorem dX6_passNight_20 : decode cX6_passNight 20 = .ok (.iadd, 1) := by decide +kernel
theorem dX6_passNight_21 : decode cX6_passNight 21 = .ok (.iload_n 1, 1) := by decide +kernel
theorem dX6_passNight_22 : decode cX6_passNight 22 = .ok (.if_icmp .ge 9, 3) := by decide +kernel
theorem dX6_passNight_25 : decode cX6_passNight 25 = .ok (.iload_n 2, 1) := by decide +kernel
theorem dX6_passNight_26 : decode cX6_passNight 26 = .ok (.iconst 3, 1) := by decide +kernel
theorem dX6_passNight_27 : decode cX6_passNight 27 = .ok (.iadd, 1) := by decide +kernel
theorem dX6_passNight_28 : decode cX6_passNight 28 = .ok (.goto 8, 3) := by decide +kernel
theorem dX6_passNight_31 : decode cX6_passNight 31 = .ok (.iload_n 2, 1) := by decide +kernel
theorem dX6_passNight_32 : decode cX6_passNight 32 = .ok (.iconst 3, 1) := by decide +kernel
theorem dX6_passNight_33 : decode cX6_passNight 33 = .ok (.iadd, 1) := by decide +kernel
theorem dX6_passNight_34 : decode cX6_passNight 34 = .ok (.iload_n 1, 1) := by decide +kernel
theorem dX6_passNight_35 : decode cX6_passNight 35 = .ok (.isub, 1) := by decide +kernel
theorem dX6_passNight_36 : decode cX6_passNight 36 = .ok (.istore_n 3, 1) := by decide +kernel
theorem dX6_passNight_37 : decode cX6_passNight 37 = .ok (.aload_n 0, 1) := by decide +kernel
theorem dX6_passNight_38 : decode cX6_passNight 38 = .ok (.getfield 11, 3) := by decide +kernel
theorem dX6_passNight_41 : decode cX6_passNight 41 = .ok (.iload_n 2, 1) := by decide +kernel
theorem dX6_passNight_42 : decode cX6_passNight 42 = .ok (.aload_n 0, 1) := by decide +kernel
theorem dX6_passNight_43 : decode cX6_passNight 43 = .ok (.getfield 15, 3) := by decide +kernel
theorem dX6_passNight_46 : decode cX6_passNight 46 = .ok (.iload_n 2, 1) := by decide +kernel
theorem dX6_passNight_47 : decode cX6_passNight 47 = .ok (.iaload, 1) := by decide +kernel
theorem dX6_passNight_48 : decode cX6_passNight 48 = .ok (.aload_n 0, 1) := by decide +kernel
theorem dX6_passNight_49 : decode cX6_passNight 49 = .ok (.getfield 15, 3) := by decide +kernel
theorem dX6_passNight_52 : decode cX6_passNight 52 = .ok (.iload_n 3, 1) := by decide +kernel
theorem dX6_passNight_53 : decode cX6_passNight 53 = .ok (.iaload, 1) := by decide +kernel
theorem dX6_passNight_54 : decode cX6_passNight 54 = .ok (.invokestatic 53, 3) := by decide +kernel
theorem dX6_passNight_57 : decode cX6_passNight 57 = .ok (.iastore, 1) := by decide +kernel
theorem dX6_passNight_58 : decode cX6_passNight 58 = .ok (.iinc 2 1, 3) := by decide +kernel
theorem dX6_passNight_61 : decode cX6_passNight 61 = .ok (.goto (-48), 3) := by decide +kernel
theorem dX6_passNight_64 : decode cX6_passNight 64 = .ok (.return_, 1) := by decide +kernel
def fX6_passNight_b36 (K13 : Nat → Int32 → Int32 → mS → Option mS) (k0 : Nat) (y1 : Int32) (y2 : Int32) (z0 : Int32) (s : mS) : Option mS :=
  bnd z0 fun v4 =>
  ldA s (aM_marks k0) 24 y2 fun v5 =>
  ldA s (aM_marks k0) 24 v4 fun v6 =>
  bO (fX2_nearer v5 v6 s) fun r7 =>
  stA s (aM_pulls k0) 24 y2 r7 fun s8 =>
  bnd (y2 + 1) fun v9 =>
  K13 k0 y1 v9 s8

def fX6_passNight_b13 : Nat → Nat → Int32 → Int32 → mS → Option mS
  | 0, _, _, _, _ => none
  | k + 1, k0, y1, y2, s =>
    if y1 ≤ y2 then
      some s
    else
      if y1 ≤ (y2 + 3) then
        fX6_passNight_b36 (fun u0 u1 u2 u3 => fX6_passNight_b13 k u0 u1 u2 u3) k0 y1 y2 ((y2 + 3) - y1) s
      else
        fX6_passNight_b36 (fun u0 u1 u2 u3 => fX6_passNight_b13 k u0 u1 u2 u3) k0 y1 y2 (y2 + 3) s

def fX6_passNight (k0 : Nat) (s : mS) : Option mS :=
  bO (fX6_markPulls k0 s) fun s1 =>
  bnd (3 * (gI s1 (iM_size k0))) fun v2 =>
  bnd 0 fun v3 =>
  fX6_passNight_b13 mFu k0 v2 v3 s1

set_option maxRecDepth 20000 in
theorem wX6_passNight_b36 {ρ : mRo} {d : Nat} {P : mPo} {V : mS → List mE} (hV : mView LC V)  {res : mS} {K13 : Nat → Int32 → Int32 → mS → Option mS} (hK13 : ∀ (k0 : Nat) (hk0 : k0 < 3) (y1 : Int32) (y2 : Int32) (s : mS), K13 k0 y1 y2 s = some res → mG ρ (mC ρ (d + 1)) 6 4 cX6_passNight none P 13 [(0, .ref (qM k0)), (1, .int y1), (2, .int y2)] [] (V s)) (hP : P none (V res)) (k0 : Nat) (hk0 : k0 < 3) (y1 : Int32) (y2 : Int32) (z0 : Int32) (s : mS) (hf : fX6_passNight_b36 K13 k0 y1 y2 z0 s = some res) : mG ρ (mC ρ (d + 1)) 6 4 cX6_passNight none P 36 [(0, .ref (qM k0)), (1, .int y1), (2, .int y2)] [.int z0] (V s) := by
  unfold fX6_passNight_b36 at hf
  refine e_istore_n dX6_passNight_36 rfl (by decide) hf (fun v4 hf => ?_)
  refine e_aload_n 1 dX6_passNight_37 rfl rfl ?_
  refine e_getr hV dX6_passNight_38 rfl (lc_M hk0) rfl ?_
  refine e_iload_n 3 dX6_passNight_41 rfl rfl ?_
  refine e_aload_n 1 dX6_passNight_42 rfl rfl ?_
  refine e_getr hV dX6_passNight_43 rfl (lc_M hk0) rfl ?_
  refine e_iload_n 3 dX6_passNight_46 rfl rfl ?_
  refine e_iald hV dX6_passNight_47 (lc_M_marks hk0) hf (fun v5 hf => ?_)
  refine e_aload_n 1 dX6_passNight_48 rfl rfl ?_
  refine e_getr hV dX6_passNight_49 rfl (lc_M hk0) rfl ?_
  refine e_iload_n 0 dX6_passNight_52 rfl rfl ?_
  refine e_iald hV dX6_passNight_53 (lc_M_marks hk0) hf (fun v6 hf => ?_)
  obtain ⟨r7, hg, hf⟩ := bO_some hf
  refine e_callS (as := [.int v5, .int v6]) (v := (some (.int r7))) (s' := s) dX6_passNight_54 rfl rfl rfl rfl rfl (Nat.le_of_ble_eq_true rfl) (fun Q hQ => tX2_nearer (d := d) hV  hg hQ) ?_
  refine e_iast hV dX6_passNight_57 (lc_M_pulls hk0) hf (fun s8 hf => ?_)
  refine e_iinc 3 dX6_passNight_58 rfl rfl hf (fun v9 hf => ?_)
  refine e_goto 13 dX6_passNight_61 (by decide) ?_
  refine e_pick [2, 3, 0] rfl ?_
  exact hK13 k0 hk0 y1 v9 s8 hf
set_option maxRecDepth 20000 in
theorem wX6_passNight_b13 {ρ : mRo} {d : Nat} {P : mPo} {V : mS → List mE} (hV : mView LC V)  {res : mS} (hP : P none (V res)) : ∀ (k : Nat) (k0 : Nat) (hk0 : k0 < 3) (y1 : Int32) (y2 : Int32) (s : mS), fX6_passNight_b13 k k0 y1 y2 s = some res → mG ρ (mC ρ (d + 1)) 6 4 cX6_passNight none P 13 [(0, .ref (qM k0)), (1, .int y1), (2, .int y2)] [] (V s) := by
  intro k
  induction k with
  | zero => intro k0 hk0 y1 y2 s hf; rw [fX6_passNight_b13] at hf; cases hf
  | succ k ih =>
    intro k0 hk0 y1 y2 s hf
    rw [fX6_passNight_b13] at hf
    refine e_iload_n 2 dX6_passNight_13 rfl rfl ?_
    refine e_iload_n 1 dX6_passNight_14 rfl rfl ?_
    refine e_icmp_ge 64 dX6_passNight_15 (by decide) hf (fun hf => ?_) (fun hf => ?_)
    · cases hf
      exact e_ret dX6_passNight_64 rfl hP
    · refine e_iload_n 2 dX6_passNight_18 rfl rfl ?_
      refine e_iconst (w := 3) dX6_passNight_19 (by decide) ?_
      refine e_iadd dX6_passNight_20 ?_
      refine e_iload_n 1 dX6_passNight_21 rfl rfl ?_
      refine e_icmp_ge 31 dX6_passNight_22 (by decide) hf (fun hf => ?_) (fun hf => ?_)
      · refine e_iload_n 2 dX6_passNight_31 rfl rfl ?_
        refine e_iconst (w := 3) dX6_passNight_32 (by decide) ?_
        refine e_iadd dX6_passNight_33 ?_
        refine e_iload_n 1 dX6_passNight_34 rfl rfl ?_
        refine e_isub dX6_passNight_35 ?_
        refine e_pick [0, 1, 2] rfl ?_
        exact wX6_passNight_b36 hV ih hP k0 hk0 y1 y2 ((y2 + 3) - y1) s hf
      · refine e_iload_n 2 dX6_passNight_25 rfl rfl ?_
        refine e_iconst (w := 3) dX6_passNight_26 (by decide) ?_
        refine e_iadd dX6_passNight_27 ?_
        refine e_goto 36 dX6_passNight_28 (by decide) ?_
        refine e_pick [0, 1, 2] rfl ?_
        exact wX6_passNight_b36 hV ih hP k0 hk0 y1 y2 (y2 + 3) s hf
set_option maxRecDepth 20000 in
theorem tX6_passNight {ρ : mRo} {d : Nat} {P : mPo} {V : mS → List mE} (hV : mView LC V)  {k0 : Nat} (hk0 : k0 < 3) {s : mS} {res : mS} (hf : fX6_passNight k0 s = some res) (hP : P none (V res)) : mC ρ (d + 2) 35 [.ref (qM k0)] (V s) P := by
  refine ⟨_, rfl, Nat.le_of_ble_eq_true rfl, by decide, ?_⟩
  show mG ρ (mC ρ (d + 1)) 6 4 cX6_passNight none P 0 [(0, .ref (qM k0))] [] (V s)
  unfold fX6_passNight at hf
  refine e_aload_n 0 dX6_passNight_0 rfl rfl ?_
  obtain ⟨s1, hg, hf⟩ := bO_some hf
  refine e_callV (as := []) (v := none) (s' := s1) hV dX6_passNight_1 (Or.inl rfl) rfl rfl rfl rfl (Nat.le_of_ble_eq_true rfl) (lc_M hk0) rfl rfl (fun Q hQ => tX6_markPulls (d := d) hV hk0 hg hQ) ?_
  refine e_iconst (w := 3) dX6_passNight_4 (by decide) ?_
  refine e_aload_n 0 dX6_passNight_5 rfl rfl ?_
  refine e_geti hV dX6_passNight_6 rfl (lc_M hk0) rfl ?_
  refine e_imul dX6_passNight_9 ?_
  refine e_istore_n dX6_passNight_10 rfl (by decide) hf (fun v2 hf => ?_)
  refine e_iconst (w := 0) dX6_passNight_11 (by decide) ?_
  refine e_istore_n dX6_passNight_12 rfl (by decide) hf (fun v3 hf => ?_)
  refine e_pick [2, 1, 0] rfl ?_
  exact wX6_passNight_b13 hV hP mFu k0 hk0 v2 v3 s1 hf

theorem dX6_areAllAlike_0 : decode cX6_areAllAlike 0 = .ok (.iconst 3, 1) := by decide +kernel
theorem dX6_areAllAlike_1 : decode cX6_areAllAlike 1 = .ok (.istore_n 1, 1) := by decide +kernel
theorem dX6_areAllAlike_2 : decode cX6_areAllAlike 2 = .ok (.iload_n 1, 1) := by decide +kernel
theorem dX6_areAllAlike_3 : decode cX6_areAllAlike 3 = .ok (.iconst 3, 1) := by decide +kernel
theorem dX6_areAllAlike_4 : decode cX6_areAllAlike 4 = .ok (.aload_n 0, 1) := by decide +kernel
theorem dX6_areAllAlike_5 : decode cX6_areAllAlike 5 = .ok (.getfield 25, 3) := by decide +kernel
theorem dX6_areAllAlike_8 : decode cX6_areAllAlike 8 = .ok (.imul, 1) := by decide +kernel
theorem dX6_areAllAlike_9 : decode cX6_areAllAlike 9 = .ok (.if_icmp .ge 28, 3) := by decide +kernel
theorem dX6_areAllAlike_12 : decode cX6_areAllAlike 12 = .ok (.aload_n 0, 1) := by decide +kernel
theorem dX6_areAllAlike_13 : decode cX6_areAllAlike 13 = .ok (.getfield 11, 3) := by decide +kernel
theorem dX6_areAllAlike_16 : decode cX6_areAllAlike 16 = .ok (.iload_n 1, 1) := by decide +kernel
theorem dX6_areAllAlike_17 : decode cX6_areAllAlike 17 = .ok (.iaload, 1) := by decide +kernel
theorem dX6_areAllAlike_18 : decode cX6_areAllAlike 18 = .ok (.aload_n 0, 1) := by decide +kernel
theorem dX6_areAllAlike_19 : decode cX6_areAllAlike 19 = .ok (.getfield 11, 3) := by decide +kernel
theorem dX6_areAllAlike_22 : decode cX6_areAllAlike 22 = .ok (.iload_n 1, 1) := by decide +kernel
theorem dX6_areAllAlike_23 : decode cX6_areAllAlike 23 = .ok (.iconst 3, 1) := by decide +kernel
theorem dX6_areAllAlike_24 : decode cX6_areAllAlike 24 = .ok (.isub, 1) := by decide +kernel
theorem dX6_areAllAlike_25 : decode cX6_areAllAlike 25 = .ok (.iaload, 1) := by decide +kernel
theorem dX6_areAllAlike_26 : decode cX6_areAllAlike 26 = .ok (.if_icmp .eq 5, 3) := by decide +kernel
theorem dX6_areAllAlike_29 : decode cX6_areAllAlike 29 = .ok (.iconst 0, 1) := by decide +kernel
theorem dX6_areAllAlike_30 : decode cX6_areAllAlike 30 = .ok (.ireturn, 1) := by decide +kernel
theorem dX6_areAllAlike_31 : decode cX6_areAllAlike 31 = .ok (.iinc 1 1, 3) := by decide +kernel
theorem dX6_areAllAlike_34 : decode cX6_areAllAlike 34 = .ok (.goto (-32), 3) := by decide +kernel
theorem dX6_areAllAlike_37 : decode cX6_areAllAlike 37 = .ok (.iconst 1, 1) := by decide +kernel
theorem dX6_areAllAlike_38 : decode cX6_areAllAlike 38 = .ok (.ireturn, 1) := by decide +kernel
def fX6_areAllAlike_b2 : Nat → Nat → Int32 → mS → Option Int32
  | 0, _, _, _ => none
  | k + 1, k0, y1, s =>
    if (3 * (gI s (iM_size k0))) ≤ y1 then
      some 1
    else
      ldA s (aM_pulls k0) 24 y1 fun v2 =>
      ldA s (aM_pulls k0) 24 (y1 - 3) fun v3 =>
      if v2 = v3 then
        bnd (y1 + 1) fun v4 =>
        fX6_areAllAlike_b2 k k0 v4 s
      else
        some 0

def fX6_areAllAlike (k0 : Nat) (s : mS) : Option Int32 :=
  bnd 3 fun v1 =>
  fX6_areAllAlike_b2 mFu k0 v1 s

set_option maxRecDepth 20000 in
theorem wX6_areAllAlike_b2 {ρ : mRo} {d : Nat} {P : mPo} {V : mS → List mE} (hV : mView LC V)  {res : Int32} {s : mS} (hP : P (some (.int res)) (V s)) : ∀ (k : Nat) (k0 : Nat) (hk0 : k0 < 3) (y1 : Int32), fX6_areAllAlike_b2 k k0 y1 s = some res → mG ρ (mC ρ d) 6 2 cX6_areAllAlike (some .boolean) P 2 [(0, .ref (qM k0)), (1, .int y1)] [] (V s) := by
  intro k
  induction k with
  | zero => intro k0 hk0 y1 hf; rw [fX6_areAllAlike_b2] at hf; cases hf
  | succ k ih =>
    intro k0 hk0 y1 hf
    rw [fX6_areAllAlike_b2] at hf
    refine e_iload_n 1 dX6_areAllAlike_2 rfl rfl ?_
    refine e_iconst (w := 3) dX6_areAllAlike_3 (by decide) ?_
    refine e_aload_n 0 dX6_areAllAlike_4 rfl rfl ?_
    refine e_geti hV dX6_areAllAlike_5 rfl (lc_M hk0) rfl ?_
    refine e_imul dX6_areAllAlike_8 ?_
    refine e_icmp_ge 37 dX6_areAllAlike_9 (by decide) hf (fun hf => ?_) (fun hf => ?_)
    · refine e_iconst (w := 1) dX6_areAllAlike_37 (by decide) ?_
      cases hf
      exact e_iret dX6_areAllAlike_38 (Or.inr rfl) hP
    · refine e_aload_n 0 dX6_areAllAlike_12 rfl rfl ?_
      refine e_getr hV dX6_areAllAlike_13 rfl (lc_M hk0) rfl ?_
      refine e_iload_n 1 dX6_areAllAlike_16 rfl rfl ?_
      refine e_iald hV dX6_areAllAlike_17 (lc_M_pulls hk0) hf (fun v2 hf => ?_)
      refine e_aload_n 0 dX6_areAllAlike_18 rfl rfl ?_
      refine e_getr hV dX6_areAllAlike_19 rfl (lc_M hk0) rfl ?_
      refine e_iload_n 1 dX6_areAllAlike_22 rfl rfl ?_
      refine e_iconst (w := 3) dX6_areAllAlike_23 (by decide) ?_
      refine e_isub dX6_areAllAlike_24 ?_
      refine e_iald hV dX6_areAllAlike_25 (lc_M_pulls hk0) hf (fun v3 hf => ?_)
      refine e_icmp_eq 31 dX6_areAllAlike_26 (by decide) hf (fun hf => ?_) (fun hf => ?_)
      · refine e_iinc 1 dX6_areAllAlike_31 rfl rfl hf (fun v4 hf => ?_)
        refine e_goto 2 dX6_areAllAlike_34 (by decide) ?_
        refine e_pick [1, 0] rfl ?_
        exact ih k0 hk0 v4 hf
      · refine e_iconst (w := 0) dX6_areAllAlike_29 (by decide) ?_
        cases hf
        exact e_iret dX6_areAllAlike_30 (Or.inl rfl) hP
set_option maxRecDepth 20000 in
theorem tX6_areAllAlike {ρ : mRo} {d : Nat} {P : mPo} {V : mS → List mE} (hV : mView LC V)  {k0 : Nat} (hk0 : k0 < 3) {s : mS} {res : Int32} (hf : fX6_areAllAlike k0 s = some res) (hP : P (some (.int res)) (V s)) : mC ρ (d + 1) 36 [.ref (qM k0)] (V s) P := by
  refine ⟨_, rfl, Nat.le_of_ble_eq_true rfl, by decide, ?_⟩
  show mG ρ (mC ρ d) 6 2 cX6_areAllAlike (some .boolean) P 0 [(0, .ref (qM k0))] [] (V s)
  unfold fX6_areAllAlike at hf
  refine e_iconst (w := 3) dX6_areAllAlike_0 (by decide) ?_
  refine e_istore_n dX6_areAllAlike_1 rfl (by decide) hf (fun v1 hf => ?_)
  refine e_pick [1, 0] rfl ?_
  exact wX6_areAllAlike_b2 hV hP mFu k0 hk0 v1 hf

theorem dX7_isRow_0 : decode cX7_isRow 0 = .ok (.aload_n 0, 1) := by decide +kernel
theorem dX7_isRow_1 : decode cX7_isRow 1 = .ok (.getfield 13, 3) := by decide +kernel
theorem dX7_isRow_4 : decode cX7_isRow 4 = .ok (.iconst (-1), 1) := by decide +kernel
theorem dX7_isRow_5 : decode cX7_isRow 5 = .ok (.if_icmp .eq 7, 3) := by decide +kernel
theorem dX7_isRow_8 : decode cX7_isRow 8 = .ok (.iconst 1, 1) := by decide +kernel
theorem dX7_isRow_9 : decode cX7_isRow 9 = .ok (.goto 4, 3) := by decide +kernel
theorem dX7_isRow_12 : decode cX7_isRow 12 = .ok (.iconst 0, 1) := by decide +kernel
theorem dX7_isRow_13 : decode cX7_isRow 13 = .ok (.ireturn, 1) := by decide +kernel
def fX7_isRow (k0 : Nat) (s : mS) : Option Int32 :=
  if (gI s (iS_sort k0)) = (-1) then
    some 0
  else
    some 1

set_option maxRecDepth 20000 in
theorem tX7_isRow {ρ : mRo} {d : Nat} {P : mPo} {V : mS → List mE} (hV : mView LC V)  {k0 : Nat} (hk0 : k0 < 6) {s : mS} {res : Int32} (hf : fX7_isRow k0 s = some res) (hP : P (some (.int res)) (V s)) : mC ρ (d + 1) 37 [.ref (qS k0)] (V s) P := by
  refine ⟨_, rfl, Nat.le_of_ble_eq_true rfl, by decide, ?_⟩
  show mG ρ (mC ρ d) 7 1 cX7_isRow (some .boolean) P 0 [(0, .ref (qS k0))] [] (V s)
  unfold fX7_isRow at hf
  refine e_aload_n 0 dX7_isRow_0 rfl rfl ?_
  refine e_geti hV dX7_isRow_1 rfl (lc_S hk0) rfl ?_
  refine e_iconst (w := (-1)) dX7_isRow_4 (by decide) ?_
  refine e_icmp_eq 12 dX7_isRow_5 (by decide) hf (fun hf => ?_) (fun hf => ?_)
  · refine e_iconst (w := 0) dX7_isRow_12 (by decide) ?_
    cases hf
    exact e_iret dX7_isRow_13 (Or.inl rfl) hP
  · refine e_iconst (w := 1) dX7_isRow_8 (by decide) ?_
    refine e_goto 13 dX7_isRow_9 (by decide) ?_
    cases hf
    exact e_iret dX7_isRow_13 (Or.inr rfl) hP

theorem dX7_isRowOf_0 : decode cX7_isRowOf 0 = .ok (.aload_n 0, 1) := by decide +kernel
theorem dX7_isRowOf_1 : decode cX7_isRowOf 1 = .ok (.getfield 13, 3) := by decide +kernel
theorem dX7_isRowOf_4 : decode cX7_isRowOf 4 = .ok (.iload_n 1, 1) := by decide +kernel
theorem dX7_isRowOf_5 : decode cX7_isRowOf 5 = .ok (.if_icmp .ne 7, 3) := by decide +kernel
theorem dX7_isRowOf_8 : decode cX7_isRowOf 8 = .ok (.iconst 1, 1) := by decide +kernel
theorem dX7_isRowOf_9 : decode cX7_isRowOf 9 = .ok (.goto 4, 3) := by decide +kernel
theorem dX7_isRowOf_12 : decode cX7_isRowOf 12 = .ok (.iconst 0, 1) := by decide +kernel
theorem dX7_isRowOf_13 : decode cX7_isRowOf 13 = .ok (.ireturn, 1) := by decide +kernel
def fX7_isRowOf (k0 : Nat) (x1 : Int32) (s : mS) : Option Int32 :=
  if (gI s (iS_sort k0)) = x1 then
    some 1
  else
    some 0

set_option maxRecDepth 20000 in
theorem tX7_isRowOf {ρ : mRo} {d : Nat} {P : mPo} {V : mS → List mE} (hV : mView LC V)  {k0 : Nat} (hk0 : k0 < 6) {x1 : Int32} {s : mS} {res : Int32} (hf : fX7_isRowOf k0 x1 s = some res) (hP : P (some (.int res)) (V s)) : mC ρ (d + 1) 38 [.ref (qS k0), .int x1] (V s) P := by
  refine ⟨_, rfl, Nat.le_of_ble_eq_true rfl, by decide, ?_⟩
  show mG ρ (mC ρ d) 7 2 cX7_isRowOf (some .boolean) P 0 [(0, .ref (qS k0)), (1, .int x1)] [] (V s)
  unfold fX7_isRowOf at hf
  refine e_aload_n 0 dX7_isRowOf_0 rfl rfl ?_
  refine e_geti hV dX7_isRowOf_1 rfl (lc_S hk0) rfl ?_
  refine e_iload_n 1 dX7_isRowOf_4 rfl rfl ?_
  refine e_icmp_ne 12 dX7_isRowOf_5 (by decide) hf (fun hf => ?_) (fun hf => ?_)
  · refine e_iconst (w := 0) dX7_isRowOf_12 (by decide) ?_
    cases hf
    exact e_iret dX7_isRowOf_13 (Or.inl rfl) hP
  · refine e_iconst (w := 1) dX7_isRowOf_8 (by decide) ?_
    refine e_goto 13 dX7_isRowOf_9 (by decide) ?_
    cases hf
    exact e_iret dX7_isRowOf_13 (Or.inr rfl) hP

theorem dX7_isEmpty_0 : decode cX7_isEmpty 0 = .ok (.aload_n 0, 1) := by decide +kernel
theorem dX7_isEmpty_1 : decode cX7_isEmpty 1 = .ok (.getfield 13, 3) := by decide +kernel
theorem dX7_isEmpty_4 : decode cX7_isEmpty 4 = .ok (.iconst (-1), 1) := by decide +kernel
theorem dX7_isEmpty_5 : decode cX7_isEmpty 5 = .ok (.if_icmp .ne 15, 3) := by decide +kernel
theorem dX7_isEmpty_8 : decode cX7_isEmpty 8 = .ok (.aload_n 0, 1) := by decide +kernel
theorem dX7_isEmpty_9 : decode cX7_isEmpty 9 = .ok (.getfield 17, 3) := by decide +kernel
theorem dX7_isEmpty_12 : decode cX7_isEmpty 12 = .ok (.iconst (-1), 1) := by decide +kernel
theorem dX7_isEmpty_13 : decode cX7_isEmpty 13 = .ok (.if_icmp .ne 7, 3) := by decide +kernel
theorem dX7_isEmpty_16 : decode cX7_isEmpty 16 = .ok (.iconst 1, 1) := by decide +kernel
theorem dX7_isEmpty_17 : decode cX7_isEmpty 17 = .ok (.goto 4, 3) := by decide +kernel
theorem dX7_isEmpty_20 : decode cX7_isEmpty 20 = .ok (.iconst 0, 1) := by decide +kernel
theorem dX7_isEmpty_21 : decode cX7_isEmpty 21 = .ok (.ireturn, 1) := by decide +kernel
def fX7_isEmpty (k0 : Nat) (s : mS) : Option Int32 :=
  if (gI s (iS_sort k0)) = (-1) then
    if (gI s (iS_ghost k0)) = (-1) then
      some 1
    else
      some 0
  else
    some 0

set_option maxRecDepth 20000 in
theorem tX7_isEmpty {ρ : mRo} {d : Nat} {P : mPo} {V : mS → List mE} (hV : mView LC V)  {k0 : Nat} (hk0 : k0 < 6) {s : mS} {res : Int32} (hf : fX7_isEmpty k0 s = some res) (hP : P (some (.int res)) (V s)) : mC ρ (d + 1) 39 [.ref (qS k0)] (V s) P := by
  refine ⟨_, rfl, Nat.le_of_ble_eq_true rfl, by decide, ?_⟩
  show mG ρ (mC ρ d) 7 1 cX7_isEmpty (some .boolean) P 0 [(0, .ref (qS k0))] [] (V s)
  unfold fX7_isEmpty at hf
  refine e_aload_n 0 dX7_isEmpty_0 rfl rfl ?_
  refine e_geti hV dX7_isEmpty_1 rfl (lc_S hk0) rfl ?_
  refine e_iconst (w := (-1)) dX7_isEmpty_4 (by decide) ?_
  refine e_icmp_ne 20 dX7_isEmpty_5 (by decide) hf (fun hf => ?_) (fun hf => ?_)
  · refine e_iconst (w := 0) dX7_isEmpty_20 (by decide) ?_
    cases hf
    exact e_iret dX7_isEmpty_21 (Or.inl rfl) hP
  · refine e_aload_n 0 dX7_isEmpty_8 rfl rfl ?_
    refine e_geti hV dX7_isEmpty_9 rfl (lc_S hk0) rfl ?_
    refine e_iconst (w := (-1)) dX7_isEmpty_12 (by decide) ?_
    refine e_icmp_ne 20 dX7_isEmpty_13 (by decide) hf (fun hf => ?_) (fun hf => ?_)
    · refine e_iconst (w := 0) dX7_isEmpty_20 (by decide) ?_
      cases hf
      exact e_iret dX7_isEmpty_21 (Or.inl rfl) hP
    · refine e_iconst (w := 1) dX7_isEmpty_16 (by decide) ?_
      refine e_goto 21 dX7_isEmpty_17 (by decide) ?_
      cases hf
      exact e_iret dX7_isEmpty_21 (Or.inr rfl) hP

theorem dX7_holdGhost_0 : decode cX7_holdGhost 0 = .ok (.aload_n 0, 1) := by decide +kernel
theorem dX7_holdGhost_1 : decode cX7_holdGhost 1 = .ok (.iconst (-1), 1) := by decide +kernel
theorem dX7_holdGhost_2 : decode cX7_holdGhost 2 = .ok (.putfield 13, 3) := by decide +kernel
theorem dX7_holdGhost_5 : decode cX7_holdGhost 5 = .ok (.aload_n 0, 1) := by decide +kernel
theorem dX7_holdGhost_6 : decode cX7_holdGhost 6 = .ok (.iconst 0, 1) := by decide +kernel
theorem dX7_holdGhost_7 : decode cX7_holdGhost 7 = .ok (.putfield 20, 3) := by decide +kernel
theorem dX7_holdGhost_10 : decode cX7_holdGhost 10 = .ok (.aload_n 0, 1) := by decide +kernel
theorem dX7_holdGhost_11 : decode cX7_holdGhost 11 = .ok (.iload_n 1, 1) := by decide +kernel
theorem dX7_holdGhost_12 : decode cX7_holdGhost 12 = .ok (.putfield 17, 3) := by decide +kernel
theorem dX7_holdGhost_15 : decode cX7_holdGhost 15 = .ok (.return_, 1) := by decide +kernel
def fX7_holdGhost (k0 : Nat) (x1 : Int32) (s : mS) : Option mS :=
  bnd (pI s (iS_sort k0) (-1)) fun s1 =>
  bnd (pI s1 (iS_size k0) 0) fun s2 =>
  bnd (pI s2 (iS_ghost k0) x1) fun s3 =>
  some s3

set_option maxRecDepth 20000 in
theorem tX7_holdGhost {ρ : mRo} {d : Nat} {P : mPo} {V : mS → List mE} (hV : mView LC V)  {k0 : Nat} (hk0 : k0 < 6) {x1 : Int32} {s : mS} {res : mS} (hf : fX7_holdGhost k0 x1 s = some res) (hP : P none (V res)) : mC ρ (d + 1) 40 [.ref (qS k0), .int x1] (V s) P := by
  refine ⟨_, rfl, Nat.le_of_ble_eq_true rfl, by decide, ?_⟩
  show mG ρ (mC ρ d) 7 2 cX7_holdGhost none P 0 [(0, .ref (qS k0)), (1, .int x1)] [] (V s)
  unfold fX7_holdGhost at hf
  refine e_aload_n 0 dX7_holdGhost_0 rfl rfl ?_
  refine e_iconst (w := (-1)) dX7_holdGhost_1 (by decide) ?_
  refine e_puti hV dX7_holdGhost_2 rfl rfl rfl (Or.inl rfl) (lc_S hk0) rfl hf (fun s1 hf => ?_)
  refine e_aload_n 0 dX7_holdGhost_5 rfl rfl ?_
  refine e_iconst (w := 0) dX7_holdGhost_6 (by decide) ?_
  refine e_puti hV dX7_holdGhost_7 rfl rfl rfl (Or.inl rfl) (lc_S hk0) rfl hf (fun s2 hf => ?_)
  refine e_aload_n 0 dX7_holdGhost_10 rfl rfl ?_
  refine e_iload_n 1 dX7_holdGhost_11 rfl rfl ?_
  refine e_puti hV dX7_holdGhost_12 rfl rfl rfl (Or.inl rfl) (lc_S hk0) rfl hf (fun s3 hf => ?_)
  cases hf
  exact e_ret dX7_holdGhost_15 rfl hP

theorem dJ7_fill_d0a16_0 : decode cJ7_fill_d0a16 0 = .ok (.iconst 0, 1) := by decide +kernel
theorem dJ7_fill_d0a16_1 : decode cJ7_fill_d0a16 1 = .ok (.istore_n 3, 1) := by decide +kernel
theorem dJ7_fill_d0a16_2 : decode cJ7_fill_d0a16 2 = .ok (.aload_n 0, 1) := by decide +kernel
theorem dJ7_fill_d0a16_3 : decode cJ7_fill_d0a16 3 = .ok (.arraylength, 1) := by decide +kernel
theorem dJ7_fill_d0a16_4 : decode cJ7_fill_d0a16 4 = .ok (.istore 4, 2) := by decide +kernel
theorem dJ7_fill_d0a16_6 : decode cJ7_fill_d0a16 6 = .ok (.iload_n 3, 1) := by decide +kernel
theorem dJ7_fill_d0a16_7 : decode cJ7_fill_d0a16 7 = .ok (.iload 4, 2) := by decide +kernel
theorem dJ7_fill_d0a16_9 : decode cJ7_fill_d0a16 9 = .ok (.if_icmp .ge 13, 3) := by decide +kernel
theorem dJ7_fill_d0a16_12 : decode cJ7_fill_d0a16 12 = .ok (.aload_n 0, 1) := by decide +kernel
theorem dJ7_fill_d0a16_13 : decode cJ7_fill_d0a16 13 = .ok (.iload_n 3, 1) := by decide +kernel
theorem dJ7_fill_d0a16_14 : decode cJ7_fill_d0a16 14 = .ok (.lload_n 1, 1) := by decide +kernel
theorem dJ7_fill_d0a16_15 : decode cJ7_fill_d0a16 15 = .ok (.lastore, 1) := by decide +kernel
theorem dJ7_fill_d0a16_16 : decode cJ7_fill_d0a16 16 = .ok (.iinc 3 1, 3) := by decide +kernel
theorem dJ7_fill_d0a16_19 : decode cJ7_fill_d0a16 19 = .ok (.goto (-13), 3) := by decide +kernel
theorem dJ7_fill_d0a16_22 : decode cJ7_fill_d0a16 22 = .ok (.return_, 1) := by decide +kernel
def fJ7_fill_d0a16_b6 (n0 d0 : Nat) : Nat → Int64 → Int32 → Int32 → mS → Option mS
  | 0, _, _, _, _ => none
  | k + 1, y1, y3, y4, s =>
    if y4 ≤ y3 then
      some s
    else
      stL s d0 n0 y3 y1 fun s3 =>
      bnd (y3 + 1) fun v4 =>
      fJ7_fill_d0a16_b6 n0 d0 k y1 v4 y4 s3

def fJ7_fill_d0a16 (n0 d0 : Nat) (x1 : Int64) (s : mS) : Option mS :=
  bnd 0 fun v1 =>
  bnd (Int32.ofNat n0) fun v2 =>
  fJ7_fill_d0a16_b6 n0 d0 mFu x1 v1 v2 s

set_option maxRecDepth 20000 in
theorem wJ7_fill_d0a16_b6 {ρ : mRo} {d : Nat} {P : mPo} {V : mS → List mE} {L : Nat → Option mLE} (hV : mView L V)  {q0 n0 d0 : Nat} (hq0 : L q0 = some (.inr (.inr (.inl (n0, d0))))) {res : mS} (hP : P none (V res)) : ∀ (k : Nat) (y1 : Int64) (y3 : Int32) (y4 : Int32) (s : mS), fJ7_fill_d0a16_b6 n0 d0 k y1 y3 y4 s = some res → mG ρ (mC ρ d) 15 5 cJ7_fill_d0a16 none P 6 [(0, .ref q0), (1, .long y1), (3, .int y3), (4, .int y4)] [] (V s) := by
  intro k
  induction k with
  | zero => intro y1 y3 y4 s hf; rw [fJ7_fill_d0a16_b6] at hf; cases hf
  | succ k ih =>
    intro y1 y3 y4 s hf
    rw [fJ7_fill_d0a16_b6] at hf
    refine e_iload_n 2 dJ7_fill_d0a16_6 rfl rfl ?_
    refine e_iload 3 dJ7_fill_d0a16_7 rfl ?_
    refine e_icmp_ge 22 dJ7_fill_d0a16_9 (by decide) hf (fun hf => ?_) (fun hf => ?_)
    · cases hf
      exact e_ret dJ7_fill_d0a16_22 rfl hP
    · refine e_aload_n 0 dJ7_fill_d0a16_12 rfl rfl ?_
      refine e_iload_n 2 dJ7_fill_d0a16_13 rfl rfl ?_
      refine e_lload_n 1 dJ7_fill_d0a16_14 rfl rfl ?_
      refine e_last hV dJ7_fill_d0a16_15 hq0 hf (fun s3 hf => ?_)
      refine e_iinc 2 dJ7_fill_d0a16_16 rfl rfl hf (fun v4 hf => ?_)
      refine e_goto 6 dJ7_fill_d0a16_19 (by decide) ?_
      refine e_pick [1, 2, 0, 3] rfl ?_
      exact ih y1 v4 y4 s3 hf
set_option maxRecDepth 20000 in
theorem tJ7_fill_d0a16 {ρ : mRo} {d : Nat} {P : mPo} {V : mS → List mE} {L : Nat → Option mLE} (hV : mView L V)  {q0 n0 d0 : Nat} (hq0 : L q0 = some (.inr (.inr (.inl (n0, d0))))) {x1 : Int64} {s : mS} {res : mS} (hf : fJ7_fill_d0a16 n0 d0 x1 s = some res) (hP : P none (V res)) : mC ρ (d + 1) 234 [.ref q0, .long x1] (V s) P := by
  refine ⟨_, rfl, Nat.le_of_ble_eq_true rfl, by decide, ?_⟩
  show mG ρ (mC ρ d) 15 5 cJ7_fill_d0a16 none P 0 [(0, .ref q0), (1, .long x1)] [] (V s)
  unfold fJ7_fill_d0a16 at hf
  refine e_iconst (w := 0) dJ7_fill_d0a16_0 (by decide) ?_
  refine e_istore_n dJ7_fill_d0a16_1 rfl (by decide) hf (fun v1 hf => ?_)
  refine e_aload_n 1 dJ7_fill_d0a16_2 rfl rfl ?_
  refine e_alenJ (w := Int32.ofNat n0) hV dJ7_fill_d0a16_3 hq0 rfl ?_
  refine e_istore dJ7_fill_d0a16_4 (by decide) hf (fun v2 hf => ?_)
  refine e_pick [2, 3, 1, 0] rfl ?_
  exact wJ7_fill_d0a16_b6 hV hq0 hP mFu x1 v1 v2 s hf

theorem dX7_holdRow_0 : decode cX7_holdRow 0 = .ok (.aload_n 0, 1) := by decide +kernel
theorem dX7_holdRow_1 : decode cX7_holdRow 1 = .ok (.getfield 9, 3) := by decide +kernel
theorem dX7_holdRow_4 : decode cX7_holdRow 4 = .ok (.lconst 0, 1) := by decide +kernel
theorem dX7_holdRow_5 : decode cX7_holdRow 5 = .ok (.invokestatic 23, 3) := by decide +kernel
theorem dX7_holdRow_8 : decode cX7_holdRow 8 = .ok (.aload_n 0, 1) := by decide +kernel
theorem dX7_holdRow_9 : decode cX7_holdRow 9 = .ok (.iload_n 1, 1) := by decide +kernel
theorem dX7_holdRow_10 : decode cX7_holdRow 10 = .ok (.putfield 13, 3) := by decide +kernel
theorem dX7_holdRow_13 : decode cX7_holdRow 13 = .ok (.aload_n 0, 1) := by decide +kernel
theorem dX7_holdRow_14 : decode cX7_holdRow 14 = .ok (.iload_n 2, 1) := by decide +kernel
theorem dX7_holdRow_15 : decode cX7_holdRow 15 = .ok (.putfield 20, 3) := by decide +kernel
theorem dX7_holdRow_18 : decode cX7_holdRow 18 = .ok (.aload_n 0, 1) := by decide +kernel
theorem dX7_holdRow_19 : decode cX7_holdRow 19 = .ok (.iconst (-1), 1) := by decide +kernel
theorem dX7_holdRow_20 : decode cX7_holdRow 20 = .ok (.putfield 17, 3) := by decide +kernel
theorem dX7_holdRow_23 : decode cX7_holdRow 23 = .ok (.return_, 1) := by decide +kernel
def fX7_holdRow (k0 : Nat) (x1 : Int32) (x2 : Int32) (s : mS) : Option mS :=
  bO (fJ7_fill_d0a16 60 (lS_cells k0) 0 s) fun s1 =>
  bnd (pI s1 (iS_sort k0) x1) fun s2 =>
  bnd (pI s2 (iS_size k0) x2) fun s3 =>
  bnd (pI s3 (iS_ghost k0) (-1)) fun s4 =>
  some s4

set_option maxRecDepth 20000 in
theorem tX7_holdRow {ρ : mRo} {d : Nat} {P : mPo} {V : mS → List mE} (hV : mView LC V)  {k0 : Nat} (hk0 : k0 < 6) {x1 : Int32} {x2 : Int32} {s : mS} {res : mS} (hf : fX7_holdRow k0 x1 x2 s = some res) (hP : P none (V res)) : mC ρ (d + 2) 41 [.ref (qS k0), .int x1, .int x2] (V s) P := by
  refine ⟨_, rfl, Nat.le_of_ble_eq_true rfl, by decide, ?_⟩
  show mG ρ (mC ρ (d + 1)) 7 3 cX7_holdRow none P 0 [(0, .ref (qS k0)), (1, .int x1), (2, .int x2)] [] (V s)
  unfold fX7_holdRow at hf
  refine e_aload_n 0 dX7_holdRow_0 rfl rfl ?_
  refine e_getr hV dX7_holdRow_1 rfl (lc_S hk0) rfl ?_
  refine e_lconst (w := 0) dX7_holdRow_4 (by decide) ?_
  obtain ⟨s1, hg, hf⟩ := bO_some hf
  refine e_callS (as := [.ref (qS_cells k0), .long 0]) (v := none) (s' := s1) dX7_holdRow_5 rfl rfl rfl rfl rfl (Nat.le_of_ble_eq_true rfl) (fun Q hQ => tJ7_fill_d0a16 (d := d) hV (lc_S_cells hk0) hg hQ) ?_
  refine e_aload_n 0 dX7_holdRow_8 rfl rfl ?_
  refine e_iload_n 1 dX7_holdRow_9 rfl rfl ?_
  refine e_puti hV dX7_holdRow_10 rfl rfl rfl (Or.inl rfl) (lc_S hk0) rfl hf (fun s2 hf => ?_)
  refine e_aload_n 0 dX7_holdRow_13 rfl rfl ?_
  refine e_iload_n 2 dX7_holdRow_14 rfl rfl ?_
  refine e_puti hV dX7_holdRow_15 rfl rfl rfl (Or.inl rfl) (lc_S hk0) rfl hf (fun s3 hf => ?_)
  refine e_aload_n 0 dX7_holdRow_18 rfl rfl ?_
  refine e_iconst (w := (-1)) dX7_holdRow_19 (by decide) ?_
  refine e_puti hV dX7_holdRow_20 rfl rfl rfl (Or.inl rfl) (lc_S hk0) rfl hf (fun s4 hf => ?_)
  cases hf
  exact e_ret dX7_holdRow_23 rfl hP

theorem dX7_hasSpan_0 : decode cX7_hasSpan 0 = .ok (.iload_n 1, 1) := by decide +kernel
theorem dX7_hasSpan_1 : decode cX7_hasSpan 1 = .ok (.ifCond .lt 29, 3) := by decide +kernel
theorem dX7_hasSpan_4 : decode cX7_hasSpan 4 = .ok (.iload_n 2, 1) := by decide +kernel
theorem dX7_hasSpan_5 : decode cX7_hasSpan 5 = .ok (.ifCond .lt 25, 3) := by decide +kernel
theorem dX7_hasSpan_8 : decode cX7_hasSpan 8 = .ok (.iload_n 2, 1) := by decide +kernel
theorem dX7_hasSpan_9 : decode cX7_hasSpan 9 = .ok (.aload_n 0, 1) := by decide +kernel
theorem dX7_hasSpan_10 : decode cX7_hasSpan 10 = .ok (.getfield 20, 3) := by decide +kernel
theorem dX7_hasSpan_13 : decode cX7_hasSpan 13 = .ok (.if_icmp .gt 17, 3) := by decide +kernel
theorem dX7_hasSpan_16 : decode cX7_hasSpan 16 = .ok (.iload_n 1, 1) := by decide +kernel
theorem dX7_hasSpan_17 : decode cX7_hasSpan 17 = .ok (.aload_n 0, 1) := by decide +kernel
theorem dX7_hasSpan_18 : decode cX7_hasSpan 18 = .ok (.getfield 20, 3) := by decide +kernel
theorem dX7_hasSpan_21 : decode cX7_hasSpan 21 = .ok (.iload_n 2, 1) := by decide +kernel
theorem dX7_hasSpan_22 : decode cX7_hasSpan 22 = .ok (.isub, 1) := by decide +kernel
theorem dX7_hasSpan_23 : decode cX7_hasSpan 23 = .ok (.if_icmp .gt 7, 3) := by decide +kernel
theorem dX7_hasSpan_26 : decode cX7_hasSpan 26 = .ok (.iconst 1, 1) := by decide +kernel
theorem dX7_hasSpan_27 : decode cX7_hasSpan 27 = .ok (.goto 4, 3) := by decide +kernel
theorem dX7_hasSpan_30 : decode cX7_hasSpan 30 = .ok (.iconst 0, 1) := by decide +kernel
theorem dX7_hasSpan_31 : decode cX7_hasSpan 31 = .ok (.ireturn, 1) := by decide +kernel
def fX7_hasSpan (k0 : Nat) (x1 : Int32) (x2 : Int32) (s : mS) : Option Int32 :=
  if x1 < 0 then
    some 0
  else
    if x2 < 0 then
      some 0
    else
      if (gI s (iS_size k0)) < x2 then
        some 0
      else
        if ((gI s (iS_size k0)) - x2) < x1 then
          some 0
        else
          some 1

set_option maxRecDepth 20000 in
theorem tX7_hasSpan {ρ : mRo} {d : Nat} {P : mPo} {V : mS → List mE} (hV : mView LC V)  {k0 : Nat} (hk0 : k0 < 6) {x1 : Int32} {x2 : Int32} {s : mS} {res : Int32} (hf : fX7_hasSpan k0 x1 x2 s = some res) (hP : P (some (.int res)) (V s)) : mC ρ (d + 1) 42 [.ref (qS k0), .int x1, .int x2] (V s) P := by
  refine ⟨_, rfl, Nat.le_of_ble_eq_true rfl, by decide, ?_⟩
  show mG ρ (mC ρ d) 7 3 cX7_hasSpan (some .boolean) P 0 [(0, .ref (qS k0)), (1, .int x1), (2, .int x2)] [] (V s)
  unfold fX7_hasSpan at hf
  refine e_iload_n 1 dX7_hasSpan_0 rfl rfl ?_
  refine e_if_lt 30 dX7_hasSpan_1 (by decide) hf (fun hf => ?_) (fun hf => ?_)
  · refine e_iconst (w := 0) dX7_hasSpan_30 (by decide) ?_
    cases hf
    exact e_iret dX7_hasSpan_31 (Or.inl rfl) hP
  · refine e_iload_n 2 dX7_hasSpan_4 rfl rfl ?_
    refine e_if_lt 30 dX7_hasSpan_5 (by decide) hf (fun hf => ?_) (fun hf => ?_)
    · refine e_iconst (w := 0) dX7_hasSpan_30 (by decide) ?_
      cases hf
      exact e_iret dX7_hasSpan_31 (Or.inl rfl) hP
    · refine e_iload_n 2 dX7_hasSpan_8 rfl rfl ?_
      refine e_aload_n 0 dX7_hasSpan_9 rfl rfl ?_
      refine e_geti hV dX7_hasSpan_10 rfl (lc_S hk0) rfl ?_
      refine e_icmp_gt 30 dX7_hasSpan_13 (by decide) hf (fun hf => ?_) (fun hf => ?_)
      · refine e_iconst (w := 0) dX7_hasSpan_30 (by decide) ?_
        cases hf
        exact e_iret dX7_hasSpan_31 (Or.inl rfl) hP
      · refine e_iload_n 1 dX7_hasSpan_16 rfl rfl ?_
        refine e_aload_n 0 dX7_hasSpan_17 rfl rfl ?_
        refine e_geti hV dX7_hasSpan_18 rfl (lc_S hk0) rfl ?_
        refine e_iload_n 2 dX7_hasSpan_21 rfl rfl ?_
        refine e_isub dX7_hasSpan_22 ?_
        refine e_icmp_gt 30 dX7_hasSpan_23 (by decide) hf (fun hf => ?_) (fun hf => ?_)
        · refine e_iconst (w := 0) dX7_hasSpan_30 (by decide) ?_
          cases hf
          exact e_iret dX7_hasSpan_31 (Or.inl rfl) hP
        · refine e_iconst (w := 1) dX7_hasSpan_26 (by decide) ?_
          refine e_goto 31 dX7_hasSpan_27 (by decide) ?_
          cases hf
          exact e_iret dX7_hasSpan_31 (Or.inr rfl) hP

theorem dX7_lowest_0 : decode cX7_lowest 0 = .ok (.aload_n 0, 1) := by decide +kernel
theorem dX7_lowest_1 : decode cX7_lowest 1 = .ok (.getfield 13, 3) := by decide +kernel
theorem dX7_lowest_4 : decode cX7_lowest 4 = .ok (.tableswitch 48 0 3 #[32, 37, 42, 46], 32) := by decide +kernel
theorem dX7_lowest_36 : decode cX7_lowest 36 = .ok (.lload_n 1, 1) := by decide +kernel
theorem dX7_lowest_37 : decode cX7_lowest 37 = .ok (.l2i, 1) := by decide +kernel
theorem dX7_lowest_38 : decode cX7_lowest 38 = .ok (.i2b, 1) := by decide +kernel
theorem dX7_lowest_39 : decode cX7_lowest 39 = .ok (.i2l, 1) := by decide +kernel
theorem dX7_lowest_40 : decode cX7_lowest 40 = .ok (.lreturn, 1) := by decide +kernel
theorem dX7_lowest_41 : decode cX7_lowest 41 = .ok (.lload_n 1, 1) := by decide +kernel
theorem dX7_lowest_42 : decode cX7_lowest 42 = .ok (.l2i, 1) := by decide +kernel
theorem dX7_lowest_43 : decode cX7_lowest 43 = .ok (.i2s, 1) := by decide +kernel
theorem dX7_lowest_44 : decode cX7_lowest 44 = .ok (.i2l, 1) := by decide +kernel
theorem dX7_lowest_45 : decode cX7_lowest 45 = .ok (.lreturn, 1) := by decide +kernel
theorem dX7_lowest_46 : decode cX7_lowest 46 = .ok (.lload_n 1, 1) := by decide +kernel
theorem dX7_lowest_47 : decode cX7_lowest 47 = .ok (.l2i, 1) := by decide +kernel
theorem dX7_lowest_48 : decode cX7_lowest 48 = .ok (.i2l, 1) := by decide +kernel
theorem dX7_lowest_49 : decode cX7_lowest 49 = .ok (.lreturn, 1) := by decide +kernel
theorem dX7_lowest_50 : decode cX7_lowest 50 = .ok (.lload_n 1, 1) := by decide +kernel
theorem dX7_lowest_51 : decode cX7_lowest 51 = .ok (.lreturn, 1) := by decide +kernel
theorem dX7_lowest_52 : decode cX7_lowest 52 = .ok (.lload_n 1, 1) := by decide +kernel
theorem dX7_lowest_53 : decode cX7_lowest 53 = .ok (.lconst 0, 1) := by decide +kernel
theorem dX7_lowest_54 : decode cX7_lowest 54 = .ok (.lcmp, 1) := by decide +kernel
theorem dX7_lowest_55 : decode cX7_lowest 55 = .ok (.ifCond .eq 7, 3) := by decide +kernel
theorem dX7_lowest_58 : decode cX7_lowest 58 = .ok (.lconst 1, 1) := by decide +kernel
theorem dX7_lowest_59 : decode cX7_lowest 59 = .ok (.goto 4, 3) := by decide +kernel
theorem dX7_lowest_62 : decode cX7_lowest 62 = .ok (.lconst 0, 1) := by decide +kernel
theorem dX7_lowest_63 : decode cX7_lowest 63 = .ok (.lreturn, 1) := by decide +kernel
def fX7_lowest (k0 : Nat) (x1 : Int64) (s : mS) : Option Int64 :=
  if (gI s (iS_sort k0)) = 0 then
    some (Int32.toInt64 ((Int32.toInt8 (Int64.toInt32 x1)).toInt32))
  else if (gI s (iS_sort k0)) = 1 then
    some (Int32.toInt64 ((Int32.toInt16 (Int64.toInt32 x1)).toInt32))
  else if (gI s (iS_sort k0)) = 2 then
    some (Int32.toInt64 (Int64.toInt32 x1))
  else if (gI s (iS_sort k0)) = 3 then
    some x1
  else
    if (lg_cmp x1 0) = 0 then
      some 0
    else
      some 1

set_option maxRecDepth 20000 in
theorem tX7_lowest {ρ : mRo} {d : Nat} {P : mPo} {V : mS → List mE} (hV : mView LC V)  {k0 : Nat} (hk0 : k0 < 6) {x1 : Int64} {s : mS} {res : Int64} (hf : fX7_lowest k0 x1 s = some res) (hP : P (some (.long res)) (V s)) : mC ρ (d + 1) 43 [.ref (qS k0), .long x1] (V s) P := by
  refine ⟨_, rfl, Nat.le_of_ble_eq_true rfl, by decide, ?_⟩
  show mG ρ (mC ρ d) 7 3 cX7_lowest (some .long) P 0 [(0, .ref (qS k0)), (1, .long x1)] [] (V s)
  unfold fX7_lowest at hf
  refine e_aload_n 0 dX7_lowest_0 rfl rfl ?_
  refine e_geti hV dX7_lowest_1 rfl (lc_S hk0) rfl ?_
  by_cases hc0 : (gI s (iS_sort k0)) = 0
  · rw [if_pos hc0] at hf
    refine e_tabI (off := 32) (tgt := 36) dX7_lowest_4 hc0 (by decide) (by decide) ?_
    refine e_lload_n 1 dX7_lowest_36 rfl rfl ?_
    refine e_l2i dX7_lowest_37 ?_
    refine e_i2b dX7_lowest_38 ?_
    refine e_i2l dX7_lowest_39 ?_
    cases hf
    exact e_lret dX7_lowest_40 rfl hP
  rw [if_neg hc0] at hf
  by_cases hc1 : (gI s (iS_sort k0)) = 1
  · rw [if_pos hc1] at hf
    refine e_tabI (off := 37) (tgt := 41) dX7_lowest_4 hc1 (by decide) (by decide) ?_
    refine e_lload_n 1 dX7_lowest_41 rfl rfl ?_
    refine e_l2i dX7_lowest_42 ?_
    refine e_i2s dX7_lowest_43 ?_
    refine e_i2l dX7_lowest_44 ?_
    cases hf
    exact e_lret dX7_lowest_45 rfl hP
  rw [if_neg hc1] at hf
  by_cases hc2 : (gI s (iS_sort k0)) = 2
  · rw [if_pos hc2] at hf
    refine e_tabI (off := 42) (tgt := 46) dX7_lowest_4 hc2 (by decide) (by decide) ?_
    refine e_lload_n 1 dX7_lowest_46 rfl rfl ?_
    refine e_l2i dX7_lowest_47 ?_
    refine e_i2l dX7_lowest_48 ?_
    cases hf
    exact e_lret dX7_lowest_49 rfl hP
  rw [if_neg hc2] at hf
  by_cases hc3 : (gI s (iS_sort k0)) = 3
  · rw [if_pos hc3] at hf
    refine e_tabI (off := 46) (tgt := 50) dX7_lowest_4 hc3 (by decide) (by decide) ?_
    refine e_lload_n 1 dX7_lowest_50 rfl rfl ?_
    cases hf
    exact e_lret dX7_lowest_51 rfl hP
  rw [if_neg hc3] at hf
  refine e_tabD (tgt := 52) (ks := [0, 1, 2, 3]) dX7_lowest_4 (by decide) (fun z hz => ?_) ?_
  · simp only [List.mem_cons, List.not_mem_nil, or_false] at hz
    rcases hz with rfl | rfl | rfl | rfl
    · exact hc0
    · exact hc1
    · exact hc2
    · exact hc3
  refine e_lload_n 1 dX7_lowest_52 rfl rfl ?_
  refine e_lconst (w := 0) dX7_lowest_53 (by decide) ?_
  refine e_lcmp dX7_lowest_54 ?_
  refine e_if_eq 62 dX7_lowest_55 (by decide) hf (fun hf => ?_) (fun hf => ?_)
  · refine e_lconst (w := 0) dX7_lowest_62 (by decide) ?_
    cases hf
    exact e_lret dX7_lowest_63 rfl hP
  · refine e_lconst (w := 1) dX7_lowest_58 (by decide) ?_
    refine e_goto 63 dX7_lowest_59 (by decide) ?_
    cases hf
    exact e_lret dX7_lowest_63 rfl hP

theorem dX8_isFull_0 : decode cX8_isFull 0 = .ok (.aload_n 0, 1) := by decide +kernel
theorem dX8_isFull_1 : decode cX8_isFull 1 = .ok (.getfield 16, 3) := by decide +kernel
theorem dX8_isFull_4 : decode cX8_isFull 4 = .ok (.bipush 120, 2) := by decide +kernel
theorem dX8_isFull_6 : decode cX8_isFull 6 = .ok (.if_icmp .lt 7, 3) := by decide +kernel
theorem dX8_isFull_9 : decode cX8_isFull 9 = .ok (.iconst 1, 1) := by decide +kernel
theorem dX8_isFull_10 : decode cX8_isFull 10 = .ok (.goto 4, 3) := by decide +kernel
theorem dX8_isFull_13 : decode cX8_isFull 13 = .ok (.iconst 0, 1) := by decide +kernel
theorem dX8_isFull_14 : decode cX8_isFull 14 = .ok (.ireturn, 1) := by decide +kernel
def fX8_isFull (s : mS) : Option Int32 :=
  if (gI s iP_size) < 120 then
    some 0
  else
    some 1

set_option maxRecDepth 20000 in
theorem tX8_isFull {ρ : mRo} {d : Nat} {P : mPo} {V : mS → List mE} (hV : mView LC V)  {s : mS} {res : Int32} (hf : fX8_isFull s = some res) (hP : P (some (.int res)) (V s)) : mC ρ (d + 1) 44 [.ref qP] (V s) P := by
  refine ⟨_, rfl, Nat.le_of_ble_eq_true rfl, by decide, ?_⟩
  show mG ρ (mC ρ d) 8 1 cX8_isFull (some .boolean) P 0 [(0, .ref qP)] [] (V s)
  unfold fX8_isFull at hf
  refine e_aload_n 0 dX8_isFull_0 rfl rfl ?_
  refine e_geti hV dX8_isFull_1 rfl lc_P rfl ?_
  refine e_bipush (w := 120) dX8_isFull_4 (by decide) ?_
  refine e_icmp_lt 13 dX8_isFull_6 (by decide) hf (fun hf => ?_) (fun hf => ?_)
  · refine e_iconst (w := 0) dX8_isFull_13 (by decide) ?_
    cases hf
    exact e_iret dX8_isFull_14 (Or.inl rfl) hP
  · refine e_iconst (w := 1) dX8_isFull_9 (by decide) ?_
    refine e_goto 14 dX8_isFull_10 (by decide) ?_
    cases hf
    exact e_iret dX8_isFull_14 (Or.inr rfl) hP

theorem dX8_addByte_0 : decode cX8_addByte 0 = .ok (.aload_n 0, 1) := by decide +kernel
theorem dX8_addByte_1 : decode cX8_addByte 1 = .ok (.getfield 9, 3) := by decide +kernel
theorem dX8_addByte_4 : decode cX8_addByte 4 = .ok (.aload_n 0, 1) := by decide +kernel
theorem dX8_addByte_5 : decode cX8_addByte 5 = .ok (.getfield 16, 3) := by decide +kernel
theorem dX8_addByte_8 : decode cX8_addByte 8 = .ok (.iload_n 1, 1) := by decide +kernel
theorem dX8_addByte_9 : decode cX8_addByte 9 = .ok (.iastore, 1) := by decide +kernel
theorem dX8_addByte_10 : decode cX8_addByte 10 = .ok (.aload_n 0, 1) := by decide +kernel
theorem dX8_addByte_11 : decode cX8_addByte 11 = .ok (.dup, 1) := by decide +kernel
theorem dX8_addByte_12 : decode cX8_addByte 12 = .ok (.getfield 16, 3) := by decide +kernel
theorem dX8_addByte_15 : decode cX8_addByte 15 = .ok (.iconst 1, 1) := by decide +kernel
theorem dX8_addByte_16 : decode cX8_addByte 16 = .ok (.iadd, 1) := by decide +kernel
theorem dX8_addByte_17 : decode cX8_addByte 17 = .ok (.putfield 16, 3) := by decide +kernel
theorem dX8_addByte_20 : decode cX8_addByte 20 = .ok (.aload_n 0, 1) := by decide +kernel
theorem dX8_addByte_21 : decode cX8_addByte 21 = .ok (.getfield 16, 3) := by decide +kernel
theorem dX8_addByte_24 : decode cX8_addByte 24 = .ok (.ireturn, 1) := by decide +kernel
def fX8_addByte (x1 : Int32) (s : mS) : Option (Int32 × mS) :=
  stA s aP_bytes 120 (gI s iP_size) x1 fun s1 =>
  bnd (pI s1 iP_size ((gI s1 iP_size) + 1)) fun s2 =>
  some (gI s2 iP_size, s2)

set_option maxRecDepth 20000 in
theorem tX8_addByte {ρ : mRo} {d : Nat} {P : mPo} {V : mS → List mE} (hV : mView LC V)  {x1 : Int32} {s : mS} {res : (Int32 × mS)} (hf : fX8_addByte x1 s = some res) (hP : P (some (.int res.1)) (V res.2)) : mC ρ (d + 1) 45 [.ref qP, .int x1] (V s) P := by
  refine ⟨_, rfl, Nat.le_of_ble_eq_true rfl, by decide, ?_⟩
  show mG ρ (mC ρ d) 8 2 cX8_addByte (some .int) P 0 [(0, .ref qP), (1, .int x1)] [] (V s)
  unfold fX8_addByte at hf
  refine e_aload_n 0 dX8_addByte_0 rfl rfl ?_
  refine e_getr hV dX8_addByte_1 rfl lc_P rfl ?_
  refine e_aload_n 0 dX8_addByte_4 rfl rfl ?_
  refine e_geti hV dX8_addByte_5 rfl lc_P rfl ?_
  refine e_iload_n 1 dX8_addByte_8 rfl rfl ?_
  refine e_iast hV dX8_addByte_9 lc_P_bytes hf (fun s1 hf => ?_)
  refine e_aload_n 0 dX8_addByte_10 rfl rfl ?_
  refine e_dup dX8_addByte_11 rfl ?_
  refine e_geti hV dX8_addByte_12 rfl lc_P rfl ?_
  refine e_iconst (w := 1) dX8_addByte_15 (by decide) ?_
  refine e_iadd dX8_addByte_16 ?_
  refine e_puti hV dX8_addByte_17 rfl rfl rfl (Or.inl rfl) lc_P rfl hf (fun s2 hf => ?_)
  refine e_aload_n 0 dX8_addByte_20 rfl rfl ?_
  refine e_geti hV dX8_addByte_21 rfl lc_P rfl ?_
  cases hf
  exact e_iret dX8_addByte_24 trivial hP

theorem dX8_next_0 : decode cX8_next 0 = .ok (.aload_n 0, 1) := by decide +kernel
theorem dX8_next_1 : decode cX8_next 1 = .ok (.getfield 20, 3) := by decide +kernel
theorem dX8_next_4 : decode cX8_next 4 = .ok (.aload_n 0, 1) := by decide +kernel
theorem dX8_next_5 : decode cX8_next 5 = .ok (.getfield 16, 3) := by decide +kernel
theorem dX8_next_8 : decode cX8_next 8 = .ok (.if_icmp .ge 15, 3) := by decide +kernel
theorem dX8_next_11 : decode cX8_next 11 = .ok (.aload_n 0, 1) := by decide +kernel
theorem dX8_next_12 : decode cX8_next 12 = .ok (.getfield 9, 3) := by decide +kernel
theorem dX8_next_15 : decode cX8_next 15 = .ok (.aload_n 0, 1) := by decide +kernel
theorem dX8_next_16 : decode cX8_next 16 = .ok (.getfield 20, 3) := by decide +kernel
theorem dX8_next_19 : decode cX8_next 19 = .ok (.iaload, 1) := by decide +kernel
theorem dX8_next_20 : decode cX8_next 20 = .ok (.goto 4, 3) := by decide +kernel
theorem dX8_next_23 : decode cX8_next 23 = .ok (.iconst (-1), 1) := by decide +kernel
theorem dX8_next_24 : decode cX8_next 24 = .ok (.ireturn, 1) := by decide +kernel
def fX8_next (s : mS) : Option Int32 :=
  if (gI s iP_size) ≤ (gI s iP_at) then
    some (-1)
  else
    ldA s aP_bytes 120 (gI s iP_at) fun v1 =>
    some v1

set_option maxRecDepth 20000 in
theorem tX8_next {ρ : mRo} {d : Nat} {P : mPo} {V : mS → List mE} (hV : mView LC V)  {s : mS} {res : Int32} (hf : fX8_next s = some res) (hP : P (some (.int res)) (V s)) : mC ρ (d + 1) 51 [.ref qP] (V s) P := by
  refine ⟨_, rfl, Nat.le_of_ble_eq_true rfl, by decide, ?_⟩
  show mG ρ (mC ρ d) 8 1 cX8_next (some .int) P 0 [(0, .ref qP)] [] (V s)
  unfold fX8_next at hf
  refine e_aload_n 0 dX8_next_0 rfl rfl ?_
  refine e_geti hV dX8_next_1 rfl lc_P rfl ?_
  refine e_aload_n 0 dX8_next_4 rfl rfl ?_
  refine e_geti hV dX8_next_5 rfl lc_P rfl ?_
  refine e_icmp_ge 23 dX8_next_8 (by decide) hf (fun hf => ?_) (fun hf => ?_)
  · refine e_iconst (w := (-1)) dX8_next_23 (by decide) ?_
    cases hf
    exact e_iret dX8_next_24 trivial hP
  · refine e_aload_n 0 dX8_next_11 rfl rfl ?_
    refine e_getr hV dX8_next_12 rfl lc_P rfl ?_
    refine e_aload_n 0 dX8_next_15 rfl rfl ?_
    refine e_geti hV dX8_next_16 rfl lc_P rfl ?_
    refine e_iald hV dX8_next_19 lc_P_bytes hf (fun v1 hf => ?_)
    refine e_goto 24 dX8_next_20 (by decide) ?_
    cases hf
    exact e_iret dX8_next_24 trivial hP

theorem dX8_addStep_0 : decode cX8_addStep 0 = .ok (.aload_n 0, 1) := by decide +kernel
theorem dX8_addStep_1 : decode cX8_addStep 1 = .ok (.getfield 23, 3) := by decide +kernel
theorem dX8_addStep_4 : decode cX8_addStep 4 = .ok (.bipush 121, 2) := by decide +kernel
theorem dX8_addStep_6 : decode cX8_addStep 6 = .ok (.if_icmp .ge 23, 3) := by decide +kernel
theorem dX8_addStep_9 : decode cX8_addStep 9 = .ok (.aload_n 0, 1) := by decide +kernel
theorem dX8_addStep_10 : decode cX8_addStep 10 = .ok (.getfield 13, 3) := by decide +kernel
theorem dX8_addStep_13 : decode cX8_addStep 13 = .ok (.aload_n 0, 1) := by decide +kernel
theorem dX8_addStep_14 : decode cX8_addStep 14 = .ok (.getfield 23, 3) := by decide +kernel
theorem dX8_addStep_17 : decode cX8_addStep 17 = .ok (.iload_n 1, 1) := by decide +kernel
theorem dX8_addStep_18 : decode cX8_addStep 18 = .ok (.iastore, 1) := by decide +kernel
theorem dX8_addStep_19 : decode cX8_addStep 19 = .ok (.aload_n 0, 1) := by decide +kernel
theorem dX8_addStep_20 : decode cX8_addStep 20 = .ok (.dup, 1) := by decide +kernel
theorem dX8_addStep_21 : decode cX8_addStep 21 = .ok (.getfield 23, 3) := by decide +kernel
theorem dX8_addStep_24 : decode cX8_addStep 24 = .ok (.iconst 1, 1) := by decide +kernel
theorem dX8_addStep_25 : decode cX8_addStep 25 = .ok (.iadd, 1) := by decide +kernel
theorem dX8_addStep_26 : decode cX8_addStep 26 = .ok (.putfield 23, 3) := by decide +kernel
theorem dX8_addStep_29 : decode cX8_addStep 29 = .ok (.return_, 1) := by decide +kernel
def fX8_addStep (x1 : Int32) (s : mS) : Option mS :=
  if 121 ≤ (gI s iP_stepsSize) then
    some s
  else
    stA s aP_steps 121 (gI s iP_stepsSize) x1 fun s1 =>
    bnd (pI s1 iP_stepsSize ((gI s1 iP_stepsSize) + 1)) fun s2 =>
    some s2

set_option maxRecDepth 20000 in
theorem tX8_addStep {ρ : mRo} {d : Nat} {P : mPo} {V : mS → List mE} (hV : mView LC V)  {x1 : Int32} {s : mS} {res : mS} (hf : fX8_addStep x1 s = some res) (hP : P none (V res)) : mC ρ (d + 1) 53 [.ref qP, .int x1] (V s) P := by
  refine ⟨_, rfl, Nat.le_of_ble_eq_true rfl, by decide, ?_⟩
  show mG ρ (mC ρ d) 8 2 cX8_addStep none P 0 [(0, .ref qP), (1, .int x1)] [] (V s)
  unfold fX8_addStep at hf
  refine e_aload_n 0 dX8_addStep_0 rfl rfl ?_
  refine e_geti hV dX8_addStep_1 rfl lc_P rfl ?_
  refine e_bipush (w := 121) dX8_addStep_4 (by decide) ?_
  refine e_icmp_ge 29 dX8_addStep_6 (by decide) hf (fun hf => ?_) (fun hf => ?_)
  · cases hf
    exact e_ret dX8_addStep_29 rfl hP
  · refine e_aload_n 0 dX8_addStep_9 rfl rfl ?_
    refine e_getr hV dX8_addStep_10 rfl lc_P rfl ?_
    refine e_aload_n 0 dX8_addStep_13 rfl rfl ?_
    refine e_geti hV dX8_addStep_14 rfl lc_P rfl ?_
    refine e_iload_n 1 dX8_addStep_17 rfl rfl ?_
    refine e_iast hV dX8_addStep_18 lc_P_steps hf (fun s1 hf => ?_)
    refine e_aload_n 0 dX8_addStep_19 rfl rfl ?_
    refine e_dup dX8_addStep_20 rfl ?_
    refine e_geti hV dX8_addStep_21 rfl lc_P rfl ?_
    refine e_iconst (w := 1) dX8_addStep_24 (by decide) ?_
    refine e_iadd dX8_addStep_25 ?_
    refine e_puti hV dX8_addStep_26 rfl rfl rfl (Or.inl rfl) lc_P rfl hf (fun s2 hf => ?_)
    cases hf
    exact e_ret dX8_addStep_29 rfl hP

theorem dX8_isDigit_0 : decode cX8_isDigit 0 = .ok (.iload_n 0, 1) := by decide +kernel
theorem dX8_isDigit_1 : decode cX8_isDigit 1 = .ok (.bipush 48, 2) := by decide +kernel
theorem dX8_isDigit_3 : decode cX8_isDigit 3 = .ok (.if_icmp .lt 13, 3) := by decide +kernel
theorem dX8_isDigit_6 : decode cX8_isDigit 6 = .ok (.iload_n 0, 1) := by decide +kernel
theorem dX8_isDigit_7 : decode cX8_isDigit 7 = .ok (.bipush 57, 2) := by decide +kernel
theorem dX8_isDigit_9 : decode cX8_isDigit 9 = .ok (.if_icmp .gt 7, 3) := by decide +kernel
theorem dX8_isDigit_12 : decode cX8_isDigit 12 = .ok (.iconst 1, 1) := by decide +kernel
theorem dX8_isDigit_13 : decode cX8_isDigit 13 = .ok (.goto 4, 3) := by decide +kernel
theorem dX8_isDigit_16 : decode cX8_isDigit 16 = .ok (.iconst 0, 1) := by decide +kernel
theorem dX8_isDigit_17 : decode cX8_isDigit 17 = .ok (.ireturn, 1) := by decide +kernel
def fX8_isDigit (x0 : Int32) (s : mS) : Option Int32 :=
  if x0 < 48 then
    some 0
  else
    if 57 < x0 then
      some 0
    else
      some 1

set_option maxRecDepth 20000 in
theorem tX8_isDigit {ρ : mRo} {d : Nat} {P : mPo} {V : mS → List mE} (hV : mView LC V)  {x0 : Int32} {s : mS} {res : Int32} (hf : fX8_isDigit x0 s = some res) (hP : P (some (.int res)) (V s)) : mC ρ (d + 1) 54 [.int x0] (V s) P := by
  refine ⟨_, rfl, Nat.le_of_ble_eq_true rfl, by decide, ?_⟩
  show mG ρ (mC ρ d) 8 1 cX8_isDigit (some .boolean) P 0 [(0, .int x0)] [] (V s)
  unfold fX8_isDigit at hf
  refine e_iload_n 0 dX8_isDigit_0 rfl rfl ?_
  refine e_bipush (w := 48) dX8_isDigit_1 (by decide) ?_
  refine e_icmp_lt 16 dX8_isDigit_3 (by decide) hf (fun hf => ?_) (fun hf => ?_)
  · refine e_iconst (w := 0) dX8_isDigit_16 (by decide) ?_
    cases hf
    exact e_iret dX8_isDigit_17 (Or.inl rfl) hP
  · refine e_iload_n 0 dX8_isDigit_6 rfl rfl ?_
    refine e_bipush (w := 57) dX8_isDigit_7 (by decide) ?_
    refine e_icmp_gt 16 dX8_isDigit_9 (by decide) hf (fun hf => ?_) (fun hf => ?_)
    · refine e_iconst (w := 0) dX8_isDigit_16 (by decide) ?_
      cases hf
      exact e_iret dX8_isDigit_17 (Or.inl rfl) hP
    · refine e_iconst (w := 1) dX8_isDigit_12 (by decide) ?_
      refine e_goto 17 dX8_isDigit_13 (by decide) ?_
      cases hf
      exact e_iret dX8_isDigit_17 (Or.inr rfl) hP

theorem dX8_readNumber_0 : decode cX8_readNumber 0 = .ok (.iconst 0, 1) := by decide +kernel
theorem dX8_readNumber_1 : decode cX8_readNumber 1 = .ok (.istore_n 1, 1) := by decide +kernel
theorem dX8_readNumber_2 : decode cX8_readNumber 2 = .ok (.iconst 0, 1) := by decide +kernel
theorem dX8_readNumber_3 : decode cX8_readNumber 3 = .ok (.istore_n 2, 1) := by decide +kernel
theorem dX8_readNumber_4 : decode cX8_readNumber 4 = .ok (.iload_n 2, 1) := by decide +kernel
theorem dX8_readNumber_5 : decode cX8_readNumber 5 = .ok (.iconst 4, 1) := by decide +kernel
theorem dX8_readNumber_6 : decode cX8_readNumber 6 = .ok (.if_icmp .ge 42, 3) := by decide +kernel
theorem dX8_readNumber_9 : decode cX8_readNumber 9 = .ok (.aload_n 0, 1) := by decide +kernel
theorem dX8_readNumber_10 : decode cX8_readNumber 10 = .ok (.invokevirtual 45, 3) := by decide +kernel
theorem dX8_readNumber_13 : decode cX8_readNumber 13 = .ok (.invokestatic 53, 3) := by decide +kernel
theorem dX8_readNumber_16 : decode cX8_readNumber 16 = .ok (.ifCond .eq 32, 3) := by decide +kernel
theorem dX8_readNumber_19 : decode cX8_readNumber 19 = .ok (.bipush 10, 2) := by decide +kernel
theorem dX8_readNumber_21 : decode cX8_readNumber 21 = .ok (.iload_n 1, 1) := by decide +kernel
theorem dX8_readNumber_22 : decode cX8_readNumber 22 = .ok (.imul, 1) := by decide +kernel
theorem dX8_readNumber_23 : decode cX8_readNumber 23 = .ok (.aload_n 0, 1) := by decide +kernel
theorem dX8_readNumber_24 : decode cX8_readNumber 24 = .ok (.invokevirtual 45, 3) := by decide +kernel
theorem dX8_readNumber_27 : decode cX8_readNumber 27 = .ok (.iadd, 1) := by decide +kernel
theorem dX8_readNumber_28 : decode cX8_readNumber 28 = .ok (.bipush 48, 2) := by decide +kernel
theorem dX8_readNumber_30 : decode cX8_readNumber 30 = .ok (.isub, 1) := by decide +kernel
theorem dX8_readNumber_31 : decode cX8_readNumber 31 = .ok (.istore_n 1, 1) := by decide +kernel
theorem dX8_readNumber_32 : decode cX8_readNumber 32 = .ok (.aload_n 0, 1) := by decide +kernel
theorem dX8_readNumber_33 : decode cX8_readNumber 33 = .ok (.dup, 1) := by decide +kernel
theorem dX8_readNumber_34 : decode cX8_readNumber 34 = .ok (.getfield 20, 3) := by decide +kernel
theorem dX8_readNumber_37 : decode cX8_readNumber 37 = .ok (.iconst 1, 1) := by decide +kernel
theorem dX8_readNumber_38 : decode cX8_readNumber 38 = .ok (.iadd, 1) := by decide +kernel
theorem dX8_readNumber_39 : decode cX8_readNumber 39 = .ok (.putfield 20, 3) := by decide +kernel
theorem dX8_readNumber_42 : decode cX8_readNumber 42 = .ok (.iinc 2 1, 3) := by decide +kernel
theorem dX8_readNumber_45 : decode cX8_readNumber 45 = .ok (.goto (-41), 3) := by decide +kernel
theorem dX8_readNumber_48 : decode cX8_readNumber 48 = .ok (.aload_n 0, 1) := by decide +kernel
theorem dX8_readNumber_49 : decode cX8_readNumber 49 = .ok (.iload_n 1, 1) := by decide +kernel
theorem dX8_readNumber_50 : decode cX8_readNumber 50 = .ok (.invokevirtual 38, 3) := by decide +kernel
theorem dX8_readNumber_53 : decode cX8_readNumber 53 = .ok (.return_, 1) := by decide +kernel
def fX8_readNumber_b48 (y1 : Int32) (s : mS) : Option mS :=
  bO (fX8_addStep y1 s) fun s3 =>
  some s3

def fX8_readNumber_b4 : Nat → Int32 → Int32 → mS → Option mS
  | 0, _, _, _ => none
  | k + 1, y1, y2, s =>
    if 4 ≤ y2 then
      fX8_readNumber_b48 y1 s
    else
      bO (fX8_next s) fun r4 =>
      bO (fX8_isDigit r4 s) fun r5 =>
      if r5 = 0 then
        fX8_readNumber_b48 y1 s
      else
        bO (fX8_next s) fun r6 =>
        bnd (((10 * y1) + r6) - 48) fun v7 =>
        bnd (pI s iP_at ((gI s iP_at) + 1)) fun s8 =>
        bnd (y2 + 1) fun v9 =>
        fX8_readNumber_b4 k v7 v9 s8

def fX8_readNumber (s : mS) : Option mS :=
  bnd 0 fun v1 =>
  bnd 0 fun v2 =>
  fX8_readNumber_b4 mFu v1 v2 s

set_option maxRecDepth 20000 in
theorem wX8_readNumber_b48 {ρ : mRo} {d : Nat} {P : mPo} {V : mS → List mE} (hV : mView LC V)  {res : mS} (hP : P none (V res)) (y1 : Int32) (s : mS) (hf : fX8_readNumber_b48 y1 s = some res) : mG ρ (mC ρ (d + 1)) 8 3 cX8_readNumber none P 48 [(0, .ref qP), (1, .int y1)] [] (V s) := by
  unfold fX8_readNumber_b48 at hf
  refine e_aload_n 0 dX8_readNumber_48 rfl rfl ?_
  refine e_iload_n 1 dX8_readNumber_49 rfl rfl ?_
  obtain ⟨s3, hg, hf⟩ := bO_some hf
  refine e_callV (as := [.int y1]) (v := none) (s' := s3) hV dX8_readNumber_50 (Or.inl rfl) rfl rfl rfl rfl (Nat.le_of_ble_eq_true rfl) lc_P rfl rfl (fun Q hQ => tX8_addStep (d := d) hV  hg hQ) ?_
  cases hf
  exact e_ret dX8_readNumber_53 rfl hP
set_option maxRecDepth 20000 in
theorem wX8_readNumber_b4 {ρ : mRo} {d : Nat} {P : mPo} {V : mS → List mE} (hV : mView LC V)  {res : mS} (hP : P none (V res)) : ∀ (k : Nat) (y1 : Int32) (y2 : Int32) (s : mS), fX8_readNumber_b4 k y1 y2 s = some res → mG ρ (mC ρ (d + 1)) 8 3 cX8_readNumber none P 4 [(0, .ref qP), (1, .int y1), (2, .int y2)] [] (V s) := by
  intro k
  induction k with
  | zero => intro y1 y2 s hf; rw [fX8_readNumber_b4] at hf; cases hf
  | succ k ih =>
    intro y1 y2 s hf
    rw [fX8_readNumber_b4] at hf
    refine e_iload_n 2 dX8_readNumber_4 rfl rfl ?_
    refine e_iconst (w := 4) dX8_readNumber_5 (by decide) ?_
    refine e_icmp_ge 48 dX8_readNumber_6 (by decide) hf (fun hf => ?_) (fun hf => ?_)
    · refine e_pick [0, 1] rfl ?_
      exact wX8_readNumber_b48 hV hP y1 s hf
    · refine e_aload_n 0 dX8_readNumber_9 rfl rfl ?_
      obtain ⟨r4, hg, hf⟩ := bO_some hf
      refine e_callV (as := []) (v := (some (.int r4))) (s' := s) hV dX8_readNumber_10 (Or.inl rfl) rfl rfl rfl rfl (Nat.le_of_ble_eq_true rfl) lc_P rfl rfl (fun Q hQ => tX8_next (d := d) hV  hg hQ) ?_
      obtain ⟨r5, hg, hf⟩ := bO_some hf
      refine e_callS (as := [.int r4]) (v := (some (.int r5))) (s' := s) dX8_readNumber_13 rfl rfl rfl rfl rfl (Nat.le_of_ble_eq_true rfl) (fun Q hQ => tX8_isDigit (d := d) hV  hg hQ) ?_
      refine e_if_eq 48 dX8_readNumber_16 (by decide) hf (fun hf => ?_) (fun hf => ?_)
      · refine e_pick [0, 1] rfl ?_
        exact wX8_readNumber_b48 hV hP y1 s hf
      · refine e_bipush (w := 10) dX8_readNumber_19 (by decide) ?_
        refine e_iload_n 1 dX8_readNumber_21 rfl rfl ?_
        refine e_imul dX8_readNumber_22 ?_
        refine e_aload_n 0 dX8_readNumber_23 rfl rfl ?_
        obtain ⟨r6, hg, hf⟩ := bO_some hf
        refine e_callV (as := []) (v := (some (.int r6))) (s' := s) hV dX8_readNumber_24 (Or.inl rfl) rfl rfl rfl rfl (Nat.le_of_ble_eq_true rfl) lc_P rfl rfl (fun Q hQ => tX8_next (d := d) hV  hg hQ) ?_
        refine e_iadd dX8_readNumber_27 ?_
        refine e_bipush (w := 48) dX8_readNumber_28 (by decide) ?_
        refine e_isub dX8_readNumber_30 ?_
        refine e_istore_n dX8_readNumber_31 rfl (by decide) hf (fun v7 hf => ?_)
        refine e_aload_n 1 dX8_readNumber_32 rfl rfl ?_
        refine e_dup dX8_readNumber_33 rfl ?_
        refine e_geti hV dX8_readNumber_34 rfl lc_P rfl ?_
        refine e_iconst (w := 1) dX8_readNumber_37 (by decide) ?_
        refine e_iadd dX8_readNumber_38 ?_
        refine e_puti hV dX8_readNumber_39 rfl rfl rfl (Or.inl rfl) lc_P rfl hf (fun s8 hf => ?_)
        refine e_iinc 2 dX8_readNumber_42 rfl rfl hf (fun v9 hf => ?_)
        refine e_goto 4 dX8_readNumber_45 (by decide) ?_
        refine e_pick [2, 1, 0] rfl ?_
        exact ih v7 v9 s8 hf
set_option maxRecDepth 20000 in
theorem tX8_readNumber {ρ : mRo} {d : Nat} {P : mPo} {V : mS → List mE} (hV : mView LC V)  {s : mS} {res : mS} (hf : fX8_readNumber s = some res) (hP : P none (V res)) : mC ρ (d + 2) 50 [.ref qP] (V s) P := by
  refine ⟨_, rfl, Nat.le_of_ble_eq_true rfl, by decide, ?_⟩
  show mG ρ (mC ρ (d + 1)) 8 3 cX8_readNumber none P 0 [(0, .ref qP)] [] (V s)
  unfold fX8_readNumber at hf
  refine e_iconst (w := 0) dX8_readNumber_0 (by decide) ?_
  refine e_istore_n dX8_readNumber_1 rfl (by decide) hf (fun v1 hf => ?_)
  refine e_iconst (w := 0) dX8_readNumber_2 (by decide) ?_
  refine e_istore_n dX8_readNumber_3 rfl (by decide) hf (fun v2 hf => ?_)
  refine e_pick [2, 1, 0] rfl ?_
  exact wX8_readNumber_b4 hV hP mFu v1 v2 s hf

theorem dX8_takes_0 : decode cX8_takes 0 = .ok (.aload_n 0, 1) := by decide +kernel
theorem dX8_takes_1 : decode cX8_takes 1 = .ok (.invokevirtual 45, 3) := by decide +kernel
theorem dX8_takes_4 : decode cX8_takes 4 = .ok (.iload_n 1, 1) := by decide +kernel
theorem dX8_takes_5 : decode cX8_takes 5 = .ok (.if_icmp .eq 5, 3) := by decide +kernel
theorem dX8_takes_8 : decode cX8_takes 8 = .ok (.iconst 0, 1) := by decide +kernel
theorem dX8_takes_9 : decode cX8_takes 9 = .ok (.ireturn, 1) := by decide +kernel
theorem dX8_takes_10 : decode cX8_takes 10 = .ok (.aload_n 0, 1) := by decide +kernel
theorem dX8_takes_11 : decode cX8_takes 11 = .ok (.dup, 1) := by decide +kernel
theorem dX8_takes_12 : decode cX8_takes 12 = .ok (.getfield 20, 3) := by decide +kernel
theorem dX8_takes_15 : decode cX8_takes 15 = .ok (.iconst 1, 1) := by decide +kernel
theorem dX8_takes_16 : decode cX8_takes 16 = .ok (.iadd, 1) := by decide +kernel
theorem dX8_takes_17 : decode cX8_takes 17 = .ok (.putfield 20, 3) := by decide +kernel
theorem dX8_takes_20 : decode cX8_takes 20 = .ok (.iconst 1, 1) := by decide +kernel
theorem dX8_takes_21 : decode cX8_takes 21 = .ok (.ireturn, 1) := by decide +kernel
def fX8_takes (x1 : Int32) (s : mS) : Option (Int32 × mS) :=
  bO (fX8_next s) fun r1 =>
  if r1 = x1 then
    bnd (pI s iP_at ((gI s iP_at) + 1)) fun s2 =>
    some (1, s2)
  else
    some (0, s)

set_option maxRecDepth 20000 in
theorem tX8_takes {ρ : mRo} {d : Nat} {P : mPo} {V : mS → List mE} (hV : mView LC V)  {x1 : Int32} {s : mS} {res : (Int32 × mS)} (hf : fX8_takes x1 s = some res) (hP : P (some (.int res.1)) (V res.2)) : mC ρ (d + 2) 52 [.ref qP, .int x1] (V s) P := by
  refine ⟨_, rfl, Nat.le_of_ble_eq_true rfl, by decide, ?_⟩
  show mG ρ (mC ρ (d + 1)) 8 2 cX8_takes (some .boolean) P 0 [(0, .ref qP), (1, .int x1)] [] (V s)
  unfold fX8_takes at hf
  refine e_aload_n 0 dX8_takes_0 rfl rfl ?_
  obtain ⟨r1, hg, hf⟩ := bO_some hf
  refine e_callV (as := []) (v := (some (.int r1))) (s' := s) hV dX8_takes_1 (Or.inl rfl) rfl rfl rfl rfl (Nat.le_of_ble_eq_true rfl) lc_P rfl rfl (fun Q hQ => tX8_next (d := d) hV  hg hQ) ?_
  refine e_iload_n 1 dX8_takes_4 rfl rfl ?_
  refine e_icmp_eq 10 dX8_takes_5 (by decide) hf (fun hf => ?_) (fun hf => ?_)
  · refine e_aload_n 0 dX8_takes_10 rfl rfl ?_
    refine e_dup dX8_takes_11 rfl ?_
    refine e_geti hV dX8_takes_12 rfl lc_P rfl ?_
    refine e_iconst (w := 1) dX8_takes_15 (by decide) ?_
    refine e_iadd dX8_takes_16 ?_
    refine e_puti hV dX8_takes_17 rfl rfl rfl (Or.inl rfl) lc_P rfl hf (fun s2 hf => ?_)
    refine e_iconst (w := 1) dX8_takes_20 (by decide) ?_
    cases hf
    exact e_iret dX8_takes_21 (Or.inr rfl) hP
  · refine e_iconst (w := 0) dX8_takes_8 (by decide) ?_
    cases hf
    exact e_iret dX8_takes_9 (Or.inl rfl) hP

theorem dX8_levelOf_0 : decode cX8_levelOf 0 = .ok (.iload_n 0, 1) := by decide +kernel
theorem dX8_levelOf_1 : decode cX8_levelOf 1 = .ok (.lookupswitch 101 #[(37, 99), (38, 93), (42, 99), (43, 97), (45, 97), (47, 99), (60, 95), (61, 95), (62, 95), (124, 91)], 91) := by decide +kernel
theorem dX8_levelOf_92 : decode cX8_levelOf 92 = .ok (.iconst 0, 1) := by decide +kernel
theorem dX8_levelOf_93 : decode cX8_levelOf 93 = .ok (.ireturn, 1) := by decide +kernel
theorem dX8_levelOf_94 : decode cX8_levelOf 94 = .ok (.iconst 1, 1) := by decide +kernel
theorem dX8_levelOf_95 : decode cX8_levelOf 95 = .ok (.ireturn, 1) := by decide +kernel
theorem dX8_levelOf_96 : decode cX8_levelOf 96 = .ok (.iconst 2, 1) := by decide +kernel
theorem dX8_levelOf_97 : decode cX8_levelOf 97 = .ok (.ireturn, 1) := by decide +kernel
theorem dX8_levelOf_98 : decode cX8_levelOf 98 = .ok (.iconst 3, 1) := by decide +kernel
theorem dX8_levelOf_99 : decode cX8_levelOf 99 = .ok (.ireturn, 1) := by decide +kernel
theorem dX8_levelOf_100 : decode cX8_levelOf 100 = .ok (.iconst 4, 1) := by decide +kernel
theorem dX8_levelOf_101 : decode cX8_levelOf 101 = .ok (.ireturn, 1) := by decide +kernel
theorem dX8_levelOf_102 : decode cX8_levelOf 102 = .ok (.iconst (-1), 1) := by decide +kernel
theorem dX8_levelOf_103 : decode cX8_levelOf 103 = .ok (.ireturn, 1) := by decide +kernel
def fX8_levelOf (x0 : Int32) (s : mS) : Option Int32 :=
  if x0 = 37 then
    some 4
  else if x0 = 38 then
    some 1
  else if x0 = 42 then
    some 4
  else if x0 = 43 then
    some 3
  else if x0 = 45 then
    some 3
  else if x0 = 47 then
    some 4
  else if x0 = 60 then
    some 2
  else if x0 = 61 then
    some 2
  else if x0 = 62 then
    some 2
  else if x0 = 124 then
    some 0
  else
    some (-1)

set_option maxRecDepth 20000 in
theorem tX8_levelOf {ρ : mRo} {d : Nat} {P : mPo} {V : mS → List mE} (hV : mView LC V)  {x0 : Int32} {s : mS} {res : Int32} (hf : fX8_levelOf x0 s = some res) (hP : P (some (.int res)) (V s)) : mC ρ (d + 1) 56 [.int x0] (V s) P := by
  refine ⟨_, rfl, Nat.le_of_ble_eq_true rfl, by decide, ?_⟩
  show mG ρ (mC ρ d) 8 1 cX8_levelOf (some .int) P 0 [(0, .int x0)] [] (V s)
  unfold fX8_levelOf at hf
  refine e_iload_n 0 dX8_levelOf_0 rfl rfl ?_
  by_cases hc37 : x0 = 37
  · rw [if_pos hc37] at hf
    refine e_look (tgt := 100) (w := 37) dX8_levelOf_1 hc37 (by decide) (by decide) ?_
    refine e_iconst (w := 4) dX8_levelOf_100 (by decide) ?_
    cases hf
    exact e_iret dX8_levelOf_101 trivial hP
  rw [if_neg hc37] at hf
  by_cases hc38 : x0 = 38
  · rw [if_pos hc38] at hf
    refine e_look (tgt := 94) (w := 38) dX8_levelOf_1 hc38 (by decide) (by decide) ?_
    refine e_iconst (w := 1) dX8_levelOf_94 (by decide) ?_
    cases hf
    exact e_iret dX8_levelOf_95 trivial hP
  rw [if_neg hc38] at hf
  by_cases hc42 : x0 = 42
  · rw [if_pos hc42] at hf
    refine e_look (tgt := 100) (w := 42) dX8_levelOf_1 hc42 (by decide) (by decide) ?_
    refine e_iconst (w := 4) dX8_levelOf_100 (by decide) ?_
    cases hf
    exact e_iret dX8_levelOf_101 trivial hP
  rw [if_neg hc42] at hf
  by_cases hc43 : x0 = 43
  · rw [if_pos hc43] at hf
    refine e_look (tgt := 98) (w := 43) dX8_levelOf_1 hc43 (by decide) (by decide) ?_
    refine e_iconst (w := 3) dX8_levelOf_98 (by decide) ?_
    cases hf
    exact e_iret dX8_levelOf_99 trivial hP
  rw [if_neg hc43] at hf
  by_cases hc45 : x0 = 45
  · rw [if_pos hc45] at hf
    refine e_look (tgt := 98) (w := 45) dX8_levelOf_1 hc45 (by decide) (by decide) ?_
    refine e_iconst (w := 3) dX8_levelOf_98 (by decide) ?_
    cases hf
    exact e_iret dX8_levelOf_99 trivial hP
  rw [if_neg hc45] at hf
  by_cases hc47 : x0 = 47
  · rw [if_pos hc47] at hf
    refine e_look (tgt := 100) (w := 47) dX8_levelOf_1 hc47 (by decide) (by decide) ?_
    refine e_iconst (w := 4) dX8_levelOf_100 (by decide) ?_
    cases hf
    exact e_iret dX8_levelOf_101 trivial hP
  rw [if_neg hc47] at hf
  by_cases hc60 : x0 = 60
  · rw [if_pos hc60] at hf
    refine e_look (tgt := 96) (w := 60) dX8_levelOf_1 hc60 (by decide) (by decide) ?_
    refine e_iconst (w := 2) dX8_levelOf_96 (by decide) ?_
    cases hf
    exact e_iret dX8_levelOf_97 trivial hP
  rw [if_neg hc60] at hf
  by_cases hc61 : x0 = 61
  · rw [if_pos hc61] at hf
    refine e_look (tgt := 96) (w := 61) dX8_levelOf_1 hc61 (by decide) (by decide) ?_
    refine e_iconst (w := 2) dX8_levelOf_96 (by decide) ?_
    cases hf
    exact e_iret dX8_levelOf_97 trivial hP
  rw [if_neg hc61] at hf
  by_cases hc62 : x0 = 62
  · rw [if_pos hc62] at hf
    refine e_look (tgt := 96) (w := 62) dX8_levelOf_1 hc62 (by decide) (by decide) ?_
    refine e_iconst (w := 2) dX8_levelOf_96 (by decide) ?_
    cases hf
    exact e_iret dX8_levelOf_97 trivial hP
  rw [if_neg hc62] at hf
  by_cases hc124 : x0 = 124
  · rw [if_pos hc124] at hf
    refine e_look (tgt := 92) (w := 124) dX8_levelOf_1 hc124 (by decide) (by decide) ?_
    refine e_iconst (w := 0) dX8_levelOf_92 (by decide) ?_
    cases hf
    exact e_iret dX8_levelOf_93 trivial hP
  rw [if_neg hc124] at hf
  refine e_lookD (tgt := 102) (ks := [37, 38, 42, 43, 45, 47, 60, 61, 62, 124]) dX8_levelOf_1 (by decide) (by decide) (fun z hz => ?_) ?_
  · simp only [List.mem_cons, List.not_mem_nil, or_false] at hz
    rcases hz with rfl | rfl | rfl | rfl | rfl | rfl | rfl | rfl | rfl | rfl
    · exact hc37
    · exact hc38
    · exact hc42
    · exact hc43
    · exact hc45
    · exact hc47
    · exact hc60
    · exact hc61
    · exact hc62
    · exact hc124
  refine e_iconst (w := (-1)) dX8_levelOf_102 (by decide) ?_
  cases hf
  exact e_iret dX8_levelOf_103 trivial hP

theorem dX9_has_0 : decode cX9_has 0 = .ok (.iload_n 1, 1) := by decide +kernel
theorem dX9_has_1 : decode cX9_has 1 = .ok (.ifCond .lt 15, 3) := by decide +kernel
theorem dX9_has_4 : decode cX9_has 4 = .ok (.iload_n 1, 1) := by decide +kernel
theorem dX9_has_5 : decode cX9_has 5 = .ok (.aload_n 0, 1) := by decide +kernel
theorem dX9_has_6 : decode cX9_has 6 = .ok (.getfield 18, 3) := by decide +kernel
theorem dX9_has_9 : decode cX9_has 9 = .ok (.if_icmp .ge 7, 3) := by decide +kernel
theorem dX9_has_12 : decode cX9_has 12 = .ok (.iconst 1, 1) := by decide +kernel
theorem dX9_has_13 : decode cX9_has 13 = .ok (.goto 4, 3) := by decide +kernel
theorem dX9_has_16 : decode cX9_has 16 = .ok (.iconst 0, 1) := by decide +kernel
theorem dX9_has_17 : decode cX9_has 17 = .ok (.ireturn, 1) := by decide +kernel
def fX9_has (k0 : Nat) (x1 : Int32) (s : mS) : Option Int32 :=
  if x1 < 0 then
    some 0
  else
    if (gI s (iW_size k0)) ≤ x1 then
      some 0
    else
      some 1

set_option maxRecDepth 20000 in
theorem tX9_has {ρ : mRo} {d : Nat} {P : mPo} {V : mS → List mE} (hV : mView LC V)  {k0 : Nat} (hk0 : k0 < 2) {x1 : Int32} {s : mS} {res : Int32} (hf : fX9_has k0 x1 s = some res) (hP : P (some (.int res)) (V s)) : mC ρ (d + 1) 57 [.ref (qW k0), .int x1] (V s) P := by
  refine ⟨_, rfl, Nat.le_of_ble_eq_true rfl, by decide, ?_⟩
  show mG ρ (mC ρ d) 9 2 cX9_has (some .boolean) P 0 [(0, .ref (qW k0)), (1, .int x1)] [] (V s)
  unfold fX9_has at hf
  refine e_iload_n 1 dX9_has_0 rfl rfl ?_
  refine e_if_lt 16 dX9_has_1 (by decide) hf (fun hf => ?_) (fun hf => ?_)
  · refine e_iconst (w := 0) dX9_has_16 (by decide) ?_
    cases hf
    exact e_iret dX9_has_17 (Or.inl rfl) hP
  · refine e_iload_n 1 dX9_has_4 rfl rfl ?_
    refine e_aload_n 0 dX9_has_5 rfl rfl ?_
    refine e_geti hV dX9_has_6 rfl (lc_W hk0) rfl ?_
    refine e_icmp_ge 16 dX9_has_9 (by decide) hf (fun hf => ?_) (fun hf => ?_)
    · refine e_iconst (w := 0) dX9_has_16 (by decide) ?_
      cases hf
      exact e_iret dX9_has_17 (Or.inl rfl) hP
    · refine e_iconst (w := 1) dX9_has_12 (by decide) ?_
      refine e_goto 17 dX9_has_13 (by decide) ?_
      cases hf
      exact e_iret dX9_has_17 (Or.inr rfl) hP

theorem dX9_isFull_0 : decode cX9_isFull 0 = .ok (.aload_n 0, 1) := by decide +kernel
theorem dX9_isFull_1 : decode cX9_isFull 1 = .ok (.getfield 18, 3) := by decide +kernel
theorem dX9_isFull_4 : decode cX9_isFull 4 = .ok (.bipush 8, 2) := by decide +kernel
theorem dX9_isFull_6 : decode cX9_isFull 6 = .ok (.if_icmp .lt 7, 3) := by decide +kernel
theorem dX9_isFull_9 : decode cX9_isFull 9 = .ok (.iconst 1, 1) := by decide +kernel
theorem dX9_isFull_10 : decode cX9_isFull 10 = .ok (.goto 4, 3) := by decide +kernel
theorem dX9_isFull_13 : decode cX9_isFull 13 = .ok (.iconst 0, 1) := by decide +kernel
theorem dX9_isFull_14 : decode cX9_isFull 14 = .ok (.ireturn, 1) := by decide +kernel
def fX9_isFull (k0 : Nat) (s : mS) : Option Int32 :=
  if (gI s (iW_size k0)) < 8 then
    some 0
  else
    some 1

set_option maxRecDepth 20000 in
theorem tX9_isFull {ρ : mRo} {d : Nat} {P : mPo} {V : mS → List mE} (hV : mView LC V)  {k0 : Nat} (hk0 : k0 < 2) {s : mS} {res : Int32} (hf : fX9_isFull k0 s = some res) (hP : P (some (.int res)) (V s)) : mC ρ (d + 1) 58 [.ref (qW k0)] (V s) P := by
  refine ⟨_, rfl, Nat.le_of_ble_eq_true rfl, by decide, ?_⟩
  show mG ρ (mC ρ d) 9 1 cX9_isFull (some .boolean) P 0 [(0, .ref (qW k0))] [] (V s)
  unfold fX9_isFull at hf
  refine e_aload_n 0 dX9_isFull_0 rfl rfl ?_
  refine e_geti hV dX9_isFull_1 rfl (lc_W hk0) rfl ?_
  refine e_bipush (w := 8) dX9_isFull_4 (by decide) ?_
  refine e_icmp_lt 13 dX9_isFull_6 (by decide) hf (fun hf => ?_) (fun hf => ?_)
  · refine e_iconst (w := 0) dX9_isFull_13 (by decide) ?_
    cases hf
    exact e_iret dX9_isFull_14 (Or.inl rfl) hP
  · refine e_iconst (w := 1) dX9_isFull_9 (by decide) ?_
    refine e_goto 14 dX9_isFull_10 (by decide) ?_
    cases hf
    exact e_iret dX9_isFull_14 (Or.inr rfl) hP

theorem dX9_join_0 : decode cX9_join 0 = .ok (.iconst 0, 1) := by decide +kernel
theorem dX9_join_1 : decode cX9_join 1 = .ok (.istore_n 2, 1) := by decide +kernel
theorem dX9_join_2 : decode cX9_join 2 = .ok (.iload_n 2, 1) := by decide +kernel
theorem dX9_join_3 : decode cX9_join 3 = .ok (.iconst 3, 1) := by decide +kernel
theorem dX9_join_4 : decode cX9_join 4 = .ok (.if_icmp .ge 27, 3) := by decide +kernel
theorem dX9_join_7 : decode cX9_join 7 = .ok (.aload_n 0, 1) := by decide +kernel
theorem dX9_join_8 : decode cX9_join 8 = .ok (.getfield 11, 3) := by decide +kernel
theorem dX9_join_11 : decode cX9_join 11 = .ok (.iconst 3, 1) := by decide +kernel
theorem dX9_join_12 : decode cX9_join 12 = .ok (.aload_n 0, 1) := by decide +kernel
theorem dX9_join_13 : decode cX9_join 13 = .ok (.getfield 18, 3) := by decide +kernel
theorem dX9_join_16 : decode cX9_join 16 = .ok (.imul, 1) := by decide +kernel
theorem dX9_join_17 : decode cX9_join 17 = .ok (.iload_n 2, 1) := by decide +kernel
theorem dX9_join_18 : decode cX9_join 18 = .ok (.iadd, 1) := by decide +kernel
theorem dX9_join_19 : decode cX9_join 19 = .ok (.iload_n 1, 1) := by decide +kernel
theorem dX9_join_20 : decode cX9_join 20 = .ok (.iload_n 2, 1) := by decide +kernel
theorem dX9_join_21 : decode cX9_join 21 = .ok (.invokestatic 22, 3) := by decide +kernel
theorem dX9_join_24 : decode cX9_join 24 = .ok (.iastore, 1) := by decide +kernel
theorem dX9_join_25 : decode cX9_join 25 = .ok (.iinc 2 1, 3) := by decide +kernel
theorem dX9_join_28 : decode cX9_join 28 = .ok (.goto (-26), 3) := by decide +kernel
theorem dX9_join_31 : decode cX9_join 31 = .ok (.aload_n 0, 1) := by decide +kernel
theorem dX9_join_32 : decode cX9_join 32 = .ok (.getfield 15, 3) := by decide +kernel
theorem dX9_join_35 : decode cX9_join 35 = .ok (.aload_n 0, 1) := by decide +kernel
theorem dX9_join_36 : decode cX9_join 36 = .ok (.getfield 18, 3) := by decide +kernel
theorem dX9_join_39 : decode cX9_join 39 = .ok (.bipush 6, 2) := by decide +kernel
theorem dX9_join_41 : decode cX9_join 41 = .ok (.iastore, 1) := by decide +kernel
theorem dX9_join_42 : decode cX9_join 42 = .ok (.aload_n 0, 1) := by decide +kernel
theorem dX9_join_43 : decode cX9_join 43 = .ok (.dup, 1) := by decide +kernel
theorem dX9_join_44 : decode cX9_join 44 = .ok (.getfield 18, 3) := by decide +kernel
theorem dX9_join_47 : decode cX9_join 47 = .ok (.iconst 1, 1) := by decide +kernel
theorem dX9_join_48 : decode cX9_join 48 = .ok (.iadd, 1) := by decide +kernel
theorem dX9_join_49 : decode cX9_join 49 = .ok (.putfield 18, 3) := by decide +kernel
theorem dX9_join_52 : decode cX9_join 52 = .ok (.aload_n 0, 1) := by decide +kernel
theorem dX9_join_53 : decode cX9_join 53 = .ok (.getfield 18, 3) := by decide +kernel
theorem dX9_join_56 : decode cX9_join 56 = .ok (.iconst 1, 1) := by decide +kernel
theorem dX9_join_57 : decode cX9_join 57 = .ok (.isub, 1) := by decide +kernel
theorem dX9_join_58 : decode cX9_join 58 = .ok (.ireturn, 1) := by decide +kernel
def fX9_join_b2 : Nat → Nat → Int32 → Int32 → mS → Option (Int32 × mS)
  | 0, _, _, _, _ => none
  | k + 1, k0, y1, y2, s =>
    if 3 ≤ y2 then
      stA s (aW_touches k0) 8 (gI s (iW_size k0)) 6 fun s2 =>
      bnd (pI s2 (iW_size k0) ((gI s2 (iW_size k0)) + 1)) fun s3 =>
      some ((gI s3 (iW_size k0)) - 1, s3)
    else
      bO (fX2_part y1 y2 s) fun r4 =>
      stA s (aW_hands k0) 24 ((3 * (gI s (iW_size k0))) + y2) r4 fun s5 =>
      bnd (y2 + 1) fun v6 =>
      fX9_join_b2 k k0 y1 v6 s5

def fX9_join (k0 : Nat) (x1 : Int32) (s : mS) : Option (Int32 × mS) :=
  bnd 0 fun v1 =>
  fX9_join_b2 mFu k0 x1 v1 s

set_option maxRecDepth 20000 in
theorem wX9_join_b2 {ρ : mRo} {d : Nat} {P : mPo} {V : mS → List mE} (hV : mView LC V)  {res : (Int32 × mS)} (hP : P (some (.int res.1)) (V res.2)) : ∀ (k : Nat) (k0 : Nat) (hk0 : k0 < 2) (y1 : Int32) (y2 : Int32) (s : mS), fX9_join_b2 k k0 y1 y2 s = some res → mG ρ (mC ρ (d + 1)) 9 3 cX9_join (some .int) P 2 [(0, .ref (qW k0)), (1, .int y1), (2, .int y2)] [] (V s) := by
  intro k
  induction k with
  | zero => intro k0 hk0 y1 y2 s hf; rw [fX9_join_b2] at hf; cases hf
  | succ k ih =>
    intro k0 hk0 y1 y2 s hf
    rw [fX9_join_b2] at hf
    refine e_iload_n 2 dX9_join_2 rfl rfl ?_
    refine e_iconst (w := 3) dX9_join_3 (by decide) ?_
    refine e_icmp_ge 31 dX9_join_4 (by decide) hf (fun hf => ?_) (fun hf => ?_)
    · refine e_aload_n 0 dX9_join_31 rfl rfl ?_
      refine e_getr hV dX9_join_32 rfl (lc_W hk0) rfl ?_
      refine e_aload_n 0 dX9_join_35 rfl rfl ?_
      refine e_geti hV dX9_join_36 rfl (lc_W hk0) rfl ?_
      refine e_bipush (w := 6) dX9_join_39 (by decide) ?_
      refine e_iast hV dX9_join_41 (lc_W_touches hk0) hf (fun s2 hf => ?_)
      refine e_aload_n 0 dX9_join_42 rfl rfl ?_
      refine e_dup dX9_join_43 rfl ?_
      refine e_geti hV dX9_join_44 rfl (lc_W hk0) rfl ?_
      refine e_iconst (w := 1) dX9_join_47 (by decide) ?_
      refine e_iadd dX9_join_48 ?_
      refine e_puti hV dX9_join_49 rfl rfl rfl (Or.inl rfl) (lc_W hk0) rfl hf (fun s3 hf => ?_)
      refine e_aload_n 0 dX9_join_52 rfl rfl ?_
      refine e_geti hV dX9_join_53 rfl (lc_W hk0) rfl ?_
      refine e_iconst (w := 1) dX9_join_56 (by decide) ?_
      refine e_isub dX9_join_57 ?_
      cases hf
      exact e_iret dX9_join_58 trivial hP
    · refine e_aload_n 0 dX9_join_7 rfl rfl ?_
      refine e_getr hV dX9_join_8 rfl (lc_W hk0) rfl ?_
      refine e_iconst (w := 3) dX9_join_11 (by decide) ?_
      refine e_aload_n 0 dX9_join_12 rfl rfl ?_
      refine e_geti hV dX9_join_13 rfl (lc_W hk0) rfl ?_
      refine e_imul dX9_join_16 ?_
      refine e_iload_n 2 dX9_join_17 rfl rfl ?_
      refine e_iadd dX9_join_18 ?_
      refine e_iload_n 1 dX9_join_19 rfl rfl ?_
      refine e_iload_n 2 dX9_join_20 rfl rfl ?_
      obtain ⟨r4, hg, hf⟩ := bO_some hf
      refine e_callS (as := [.int y1, .int y2]) (v := (some (.int r4))) (s' := s) dX9_join_21 rfl rfl rfl rfl rfl (Nat.le_of_ble_eq_true rfl) (fun Q hQ => tX2_part (d := d) hV  hg hQ) ?_
      refine e_iast hV dX9_join_24 (lc_W_hands hk0) hf (fun s5 hf => ?_)
      refine e_iinc 2 dX9_join_25 rfl rfl hf (fun v6 hf => ?_)
      refine e_goto 2 dX9_join_28 (by decide) ?_
      refine e_pick [1, 2, 0] rfl ?_
      exact ih k0 hk0 y1 v6 s5 hf
set_option maxRecDepth 20000 in
theorem tX9_join {ρ : mRo} {d : Nat} {P : mPo} {V : mS → List mE} (hV : mView LC V)  {k0 : Nat} (hk0 : k0 < 2) {x1 : Int32} {s : mS} {res : (Int32 × mS)} (hf : fX9_join k0 x1 s = some res) (hP : P (some (.int res.1)) (V res.2)) : mC ρ (d + 2) 59 [.ref (qW k0), .int x1] (V s) P := by
  refine ⟨_, rfl, Nat.le_of_ble_eq_true rfl, by decide, ?_⟩
  show mG ρ (mC ρ (d + 1)) 9 3 cX9_join (some .int) P 0 [(0, .ref (qW k0)), (1, .int x1)] [] (V s)
  unfold fX9_join at hf
  refine e_iconst (w := 0) dX9_join_0 (by decide) ?_
  refine e_istore_n dX9_join_1 rfl (by decide) hf (fun v1 hf => ?_)
  refine e_pick [1, 2, 0] rfl ?_
  exact wX9_join_b2 hV hP mFu k0 hk0 x1 v1 s hf

theorem dX9_handCode_0 : decode cX9_handCode 0 = .ok (.aload_n 0, 1) := by decide +kernel
theorem dX9_handCode_1 : decode cX9_handCode 1 = .ok (.iload_n 1, 1) := by decide +kernel
theorem dX9_handCode_2 : decode cX9_handCode 2 = .ok (.iconst 0, 1) := by decide +kernel
theorem dX9_handCode_3 : decode cX9_handCode 3 = .ok (.invokevirtual 26, 3) := by decide +kernel
theorem dX9_handCode_6 : decode cX9_handCode 6 = .ok (.aload_n 0, 1) := by decide +kernel
theorem dX9_handCode_7 : decode cX9_handCode 7 = .ok (.iload_n 1, 1) := by decide +kernel
theorem dX9_handCode_8 : decode cX9_handCode 8 = .ok (.iconst 1, 1) := by decide +kernel
theorem dX9_handCode_9 : decode cX9_handCode 9 = .ok (.invokevirtual 26, 3) := by decide +kernel
theorem dX9_handCode_12 : decode cX9_handCode 12 = .ok (.aload_n 0, 1) := by decide +kernel
theorem dX9_handCode_13 : decode cX9_handCode 13 = .ok (.iload_n 1, 1) := by decide +kernel
theorem dX9_handCode_14 : decode cX9_handCode 14 = .ok (.iconst 2, 1) := by decide +kernel
theorem dX9_handCode_15 : decode cX9_handCode 15 = .ok (.invokevirtual 26, 3) := by decide +kernel
theorem dX9_handCode_18 : decode cX9_handCode 18 = .ok (.invokestatic 29, 3) := by decide +kernel
theorem dX9_handCode_21 : decode cX9_handCode 21 = .ok (.ireturn, 1) := by decide +kernel
def fX9_handCode (k0 : Nat) (x1 : Int32) (s : mS) : Option Int32 :=
  bO (fX9_hand k0 x1 0 s) fun r1 =>
  bO (fX9_hand k0 x1 1 s) fun r2 =>
  bO (fX9_hand k0 x1 2 s) fun r3 =>
  bO (fX2_code r1 r2 r3 s) fun r4 =>
  some r4

set_option maxRecDepth 20000 in
theorem tX9_handCode {ρ : mRo} {d : Nat} {P : mPo} {V : mS → List mE} (hV : mView LC V)  {k0 : Nat} (hk0 : k0 < 2) {x1 : Int32} {s : mS} {res : Int32} (hf : fX9_handCode k0 x1 s = some res) (hP : P (some (.int res)) (V s)) : mC ρ (d + 2) 61 [.ref (qW k0), .int x1] (V s) P := by
  refine ⟨_, rfl, Nat.le_of_ble_eq_true rfl, by decide, ?_⟩
  show mG ρ (mC ρ (d + 1)) 9 2 cX9_handCode (some .int) P 0 [(0, .ref (qW k0)), (1, .int x1)] [] (V s)
  unfold fX9_handCode at hf
  refine e_aload_n 0 dX9_handCode_0 rfl rfl ?_
  refine e_iload_n 1 dX9_handCode_1 rfl rfl ?_
  refine e_iconst (w := 0) dX9_handCode_2 (by decide) ?_
  obtain ⟨r1, hg, hf⟩ := bO_some hf
  refine e_callV (as := [.int x1, .int 0]) (v := (some (.int r1))) (s' := s) hV dX9_handCode_3 (Or.inl rfl) rfl rfl rfl rfl (Nat.le_of_ble_eq_true rfl) (lc_W hk0) rfl rfl (fun Q hQ => tX9_hand (d := d) hV hk0 hg hQ) ?_
  refine e_aload_n 0 dX9_handCode_6 rfl rfl ?_
  refine e_iload_n 1 dX9_handCode_7 rfl rfl ?_
  refine e_iconst (w := 1) dX9_handCode_8 (by decide) ?_
  obtain ⟨r2, hg, hf⟩ := bO_some hf
  refine e_callV (as := [.int x1, .int 1]) (v := (some (.int r2))) (s' := s) hV dX9_handCode_9 (Or.inl rfl) rfl rfl rfl rfl (Nat.le_of_ble_eq_true rfl) (lc_W hk0) rfl rfl (fun Q hQ => tX9_hand (d := d) hV hk0 hg hQ) ?_
  refine e_aload_n 0 dX9_handCode_12 rfl rfl ?_
  refine e_iload_n 1 dX9_handCode_13 rfl rfl ?_
  refine e_iconst (w := 2) dX9_handCode_14 (by decide) ?_
  obtain ⟨r3, hg, hf⟩ := bO_some hf
  refine e_callV (as := [.int x1, .int 2]) (v := (some (.int r3))) (s' := s) hV dX9_handCode_15 (Or.inl rfl) rfl rfl rfl rfl (Nat.le_of_ble_eq_true rfl) (lc_W hk0) rfl rfl (fun Q hQ => tX9_hand (d := d) hV hk0 hg hQ) ?_
  obtain ⟨r4, hg, hf⟩ := bO_some hf
  refine e_callS (as := [.int r1, .int r2, .int r3]) (v := (some (.int r4))) (s' := s) dX9_handCode_18 rfl rfl rfl rfl rfl (Nat.le_of_ble_eq_true rfl) (fun Q hQ => tX2_code (d := d) hV  hg hQ) ?_
  cases hf
  exact e_iret dX9_handCode_21 trivial hP

theorem dX9_layBack_0 : decode cX9_layBack 0 = .ok (.aload_n 1, 1) := by decide +kernel
theorem dX9_layBack_1 : decode cX9_layBack 1 = .ok (.getfield 11, 3) := by decide +kernel
theorem dX9_layBack_4 : decode cX9_layBack 4 = .ok (.iconst 0, 1) := by decide +kernel
theorem dX9_layBack_5 : decode cX9_layBack 5 = .ok (.aload_n 0, 1) := by decide +kernel
theorem dX9_layBack_6 : decode cX9_layBack 6 = .ok (.getfield 11, 3) := by decide +kernel
theorem dX9_layBack_9 : decode cX9_layBack 9 = .ok (.iconst 0, 1) := by decide +kernel
theorem dX9_layBack_10 : decode cX9_layBack 10 = .ok (.iconst 3, 1) := by decide +kernel
theorem dX9_layBack_11 : decode cX9_layBack 11 = .ok (.aload_n 1, 1) := by decide +kernel
theorem dX9_layBack_12 : decode cX9_layBack 12 = .ok (.getfield 18, 3) := by decide +kernel
theorem dX9_layBack_15 : decode cX9_layBack 15 = .ok (.imul, 1) := by decide +kernel
theorem dX9_layBack_16 : decode cX9_layBack 16 = .ok (.invokestatic 37, 3) := by decide +kernel
theorem dX9_layBack_19 : decode cX9_layBack 19 = .ok (.return_, 1) := by decide +kernel
def fX9_layBack (k0 : Nat) (k1 : Nat) (s : mS) : Option mS :=
  cpA s (aW_hands k1) 24 (aW_hands k0) 24 0 0 (3 * (gI s (iW_size k1))) fun s1 =>
  some s1

set_option maxRecDepth 20000 in
theorem tX9_layBack {ρ : mRo} {d : Nat} {P : mPo} {V : mS → List mE} (hV : mView LC V)  {k0 : Nat} (hk0 : k0 < 2) {k1 : Nat} (hk1 : k1 < 2) {s : mS} {res : mS} (hf : fX9_layBack k0 k1 s = some res) (hP : P none (V res)) : mC ρ (d + 1) 63 [.ref (qW k0), .ref (qW k1)] (V s) P := by
  refine ⟨_, rfl, Nat.le_of_ble_eq_true rfl, by decide, ?_⟩
  show mG ρ (mC ρ d) 9 2 cX9_layBack none P 0 [(0, .ref (qW k0)), (1, .ref (qW k1))] [] (V s)
  unfold fX9_layBack at hf
  refine e_aload_n 1 dX9_layBack_0 rfl rfl ?_
  refine e_getr hV dX9_layBack_1 rfl (lc_W hk1) rfl ?_
  refine e_iconst (w := 0) dX9_layBack_4 (by decide) ?_
  refine e_aload_n 0 dX9_layBack_5 rfl rfl ?_
  refine e_getr hV dX9_layBack_6 rfl (lc_W hk0) rfl ?_
  refine e_iconst (w := 0) dX9_layBack_9 (by decide) ?_
  refine e_iconst (w := 3) dX9_layBack_10 (by decide) ?_
  refine e_aload_n 1 dX9_layBack_11 rfl rfl ?_
  refine e_geti hV dX9_layBack_12 rfl (lc_W hk1) rfl ?_
  refine e_imul dX9_layBack_15 ?_
  refine e_cpA hV dX9_layBack_16 (by decide) (Nat.le_of_ble_eq_true rfl) (lc_W_hands hk1) (lc_W_hands hk0) hf (fun s1 hf => ?_)
  cases hf
  exact e_ret dX9_layBack_19 rfl hP

theorem dX9_copy_0 : decode cX9_copy 0 = .ok (.aload_n 0, 1) := by decide +kernel
theorem dX9_copy_1 : decode cX9_copy 1 = .ok (.aload_n 1, 1) := by decide +kernel
theorem dX9_copy_2 : decode cX9_copy 2 = .ok (.invokevirtual 33, 3) := by decide +kernel
theorem dX9_copy_5 : decode cX9_copy 5 = .ok (.aload_n 0, 1) := by decide +kernel
theorem dX9_copy_6 : decode cX9_copy 6 = .ok (.aload_n 1, 1) := by decide +kernel
theorem dX9_copy_7 : decode cX9_copy 7 = .ok (.getfield 18, 3) := by decide +kernel
theorem dX9_copy_10 : decode cX9_copy 10 = .ok (.putfield 18, 3) := by decide +kernel
theorem dX9_copy_13 : decode cX9_copy 13 = .ok (.return_, 1) := by decide +kernel
def fX9_copy (k0 : Nat) (k1 : Nat) (s : mS) : Option mS :=
  bO (fX9_layBack k0 k1 s) fun s1 =>
  bnd (pI s1 (iW_size k0) (gI s1 (iW_size k1))) fun s2 =>
  some s2

set_option maxRecDepth 20000 in
theorem tX9_copy {ρ : mRo} {d : Nat} {P : mPo} {V : mS → List mE} (hV : mView LC V)  {k0 : Nat} (hk0 : k0 < 2) {k1 : Nat} (hk1 : k1 < 2) {s : mS} {res : mS} (hf : fX9_copy k0 k1 s = some res) (hP : P none (V res)) : mC ρ (d + 2) 62 [.ref (qW k0), .ref (qW k1)] (V s) P := by
  refine ⟨_, rfl, Nat.le_of_ble_eq_true rfl, by decide, ?_⟩
  show mG ρ (mC ρ (d + 1)) 9 2 cX9_copy none P 0 [(0, .ref (qW k0)), (1, .ref (qW k1))] [] (V s)
  unfold fX9_copy at hf
  refine e_aload_n 0 dX9_copy_0 rfl rfl ?_
  refine e_aload_n 1 dX9_copy_1 rfl rfl ?_
  obtain ⟨s1, hg, hf⟩ := bO_some hf
  refine e_callV (as := [.ref (qW k1)]) (v := none) (s' := s1) hV dX9_copy_2 (Or.inl rfl) rfl rfl rfl rfl (Nat.le_of_ble_eq_true rfl) (lc_W hk0) rfl rfl (fun Q hQ => tX9_layBack (d := d) hV hk0 hk1 hg hQ) ?_
  refine e_aload_n 0 dX9_copy_5 rfl rfl ?_
  refine e_aload_n 1 dX9_copy_6 rfl rfl ?_
  refine e_geti hV dX9_copy_7 rfl (lc_W hk1) rfl ?_
  refine e_puti hV dX9_copy_10 rfl rfl rfl (Or.inl rfl) (lc_W hk0) rfl hf (fun s2 hf => ?_)
  cases hf
  exact e_ret dX9_copy_13 rfl hP

theorem dX10_machine_0 : decode cX10_machine 0 = .ok (.aload_n 0, 1) := by decide +kernel
theorem dX10_machine_1 : decode cX10_machine 1 = .ok (.getfield 10, 3) := by decide +kernel
theorem dX10_machine_4 : decode cX10_machine 4 = .ok (.invokevirtual 91, 3) := by decide +kernel
theorem dX10_machine_7 : decode cX10_machine 7 = .ok (.ifCond .eq 8, 3) := by decide +kernel
theorem dX10_machine_10 : decode cX10_machine 10 = .ok (.bipush (-3), 2) := by decide +kernel
theorem dX10_machine_12 : decode cX10_machine 12 = .ok (.goto 16, 3) := by decide +kernel
theorem dX10_machine_15 : decode cX10_machine 15 = .ok (.aload_n 0, 1) := by decide +kernel
theorem dX10_machine_16 : decode cX10_machine 16 = .ok (.getfield 10, 3) := by decide +kernel
theorem dX10_machine_19 : decode cX10_machine 19 = .ok (.bipush 6, 2) := by decide +kernel
theorem dX10_machine_21 : decode cX10_machine 21 = .ok (.bipush 6, 2) := by decide +kernel
theorem dX10_machine_23 : decode cX10_machine 23 = .ok (.bipush 6, 2) := by decide +kernel
theorem dX10_machine_25 : decode cX10_machine 25 = .ok (.invokevirtual 95, 3) := by decide +kernel
theorem dX10_machine_28 : decode cX10_machine 28 = .ok (.ireturn, 1) := by decide +kernel
def fX10_machine (s : mS) : Option (Int32 × mS) :=
  bO (fX6_isFull 0 s) fun r1 =>
  if r1 = 0 then
    bP (fX6_join 0 6 6 6 s) fun r2 s3 =>
    some (r2, s3)
  else
    some ((-3), s)

set_option maxRecDepth 20000 in
theorem tX10_machine {ρ : mRo} {d : Nat} {P : mPo} {V : mS → List mE} (hV : mView LC V)  {s : mS} {res : (Int32 × mS)} (hf : fX10_machine s = some res) (hP : P (some (.int res.1)) (V res.2)) : mC ρ (d + 3) 64 [.ref qT] (V s) P := by
  refine ⟨_, rfl, Nat.le_of_ble_eq_true rfl, by decide, ?_⟩
  show mG ρ (mC ρ (d + 2)) 10 1 cX10_machine (some .int) P 0 [(0, .ref qT)] [] (V s)
  unfold fX10_machine at hf
  refine e_aload_n 0 dX10_machine_0 rfl rfl ?_
  refine e_getr hV dX10_machine_1 rfl lc_T rfl ?_
  obtain ⟨r1, hg, hf⟩ := bO_some hf
  refine e_callV (as := []) (v := (some (.int r1))) (s' := s) hV dX10_machine_4 (Or.inl rfl) rfl rfl rfl rfl (Nat.le_of_ble_eq_true rfl) (lc_M (by decide)) rfl rfl (fun Q hQ => tX6_isFull (d := (d + 1)) hV (by decide) hg hQ) ?_
  refine e_if_eq 15 dX10_machine_7 (by decide) hf (fun hf => ?_) (fun hf => ?_)
  · refine e_aload_n 0 dX10_machine_15 rfl rfl ?_
    refine e_getr hV dX10_machine_16 rfl lc_T rfl ?_
    refine e_bipush (w := 6) dX10_machine_19 (by decide) ?_
    refine e_bipush (w := 6) dX10_machine_21 (by decide) ?_
    refine e_bipush (w := 6) dX10_machine_23 (by decide) ?_
    obtain ⟨r2, s3, hg, hf⟩ := bP_some hf
    refine e_callV (as := [.int 6, .int 6, .int 6]) (v := (some (.int r2))) (s' := s3) hV dX10_machine_25 (Or.inl rfl) rfl rfl rfl rfl (Nat.le_of_ble_eq_true rfl) (lc_M (by decide)) rfl rfl (fun Q hQ => tX6_join (d := d) hV (by decide) hg hQ) ?_
    cases hf
    exact e_iret dX10_machine_28 trivial hP
  · refine e_bipush (w := (-3)) dX10_machine_10 (by decide) ?_
    refine e_goto 28 dX10_machine_12 (by decide) ?_
    cases hf
    exact e_iret dX10_machine_28 trivial hP

theorem dX10_isShelf_0 : decode cX10_isShelf 0 = .ok (.iload_n 0, 1) := by decide +kernel
theorem dX10_isShelf_1 : decode cX10_isShelf 1 = .ok (.ifCond .lt 13, 3) := by decide +kernel
theorem dX10_isShelf_4 : decode cX10_isShelf 4 = .ok (.iload_n 0, 1) := by decide +kernel
theorem dX10_isShelf_5 : decode cX10_isShelf 5 = .ok (.bipush 6, 2) := by decide +kernel
theorem dX10_isShelf_7 : decode cX10_isShelf 7 = .ok (.if_icmp .ge 7, 3) := by decide +kernel
theorem dX10_isShelf_10 : decode cX10_isShelf 10 = .ok (.iconst 1, 1) := by decide +kernel
theorem dX10_isShelf_11 : decode cX10_isShelf 11 = .ok (.goto 4, 3) := by decide +kernel
theorem dX10_isShelf_14 : decode cX10_isShelf 14 = .ok (.iconst 0, 1) := by decide +kernel
theorem dX10_isShelf_15 : decode cX10_isShelf 15 = .ok (.ireturn, 1) := by decide +kernel
def fX10_isShelf (x0 : Int32) (s : mS) : Option Int32 :=
  if x0 < 0 then
    some 0
  else
    if 6 ≤ x0 then
      some 0
    else
      some 1

set_option maxRecDepth 20000 in
theorem tX10_isShelf {ρ : mRo} {d : Nat} {P : mPo} {V : mS → List mE} (hV : mView LC V)  {x0 : Int32} {s : mS} {res : Int32} (hf : fX10_isShelf x0 s = some res) (hP : P (some (.int res)) (V s)) : mC ρ (d + 1) 110 [.int x0] (V s) P := by
  refine ⟨_, rfl, Nat.le_of_ble_eq_true rfl, by decide, ?_⟩
  show mG ρ (mC ρ d) 10 1 cX10_isShelf (some .boolean) P 0 [(0, .int x0)] [] (V s)
  unfold fX10_isShelf at hf
  refine e_iload_n 0 dX10_isShelf_0 rfl rfl ?_
  refine e_if_lt 14 dX10_isShelf_1 (by decide) hf (fun hf => ?_) (fun hf => ?_)
  · refine e_iconst (w := 0) dX10_isShelf_14 (by decide) ?_
    cases hf
    exact e_iret dX10_isShelf_15 (Or.inl rfl) hP
  · refine e_iload_n 0 dX10_isShelf_4 rfl rfl ?_
    refine e_bipush (w := 6) dX10_isShelf_5 (by decide) ?_
    refine e_icmp_ge 14 dX10_isShelf_7 (by decide) hf (fun hf => ?_) (fun hf => ?_)
    · refine e_iconst (w := 0) dX10_isShelf_14 (by decide) ?_
      cases hf
      exact e_iret dX10_isShelf_15 (Or.inl rfl) hP
    · refine e_iconst (w := 1) dX10_isShelf_10 (by decide) ?_
      refine e_goto 15 dX10_isShelf_11 (by decide) ?_
      cases hf
      exact e_iret dX10_isShelf_15 (Or.inr rfl) hP

theorem dX10_pullsStandAt_0 : decode cX10_pullsStandAt 0 = .ok (.aload_n 0, 1) := by decide +kernel
theorem dX10_pullsStandAt_1 : decode cX10_pullsStandAt 1 = .ok (.iload_n 1, 1) := by decide +kernel
theorem dX10_pullsStandAt_2 : decode cX10_pullsStandAt 2 = .ok (.iconst 3, 1) := by decide +kernel
theorem dX10_pullsStandAt_3 : decode cX10_pullsStandAt 3 = .ok (.invokevirtual 383, 3) := by decide +kernel
theorem dX10_pullsStandAt_6 : decode cX10_pullsStandAt 6 = .ok (.ifCond .ne 5, 3) := by decide +kernel
theorem dX10_pullsStandAt_9 : decode cX10_pullsStandAt 9 = .ok (.iconst 0, 1) := by decide +kernel
theorem dX10_pullsStandAt_10 : decode cX10_pullsStandAt 10 = .ok (.ireturn, 1) := by decide +kernel
theorem dX10_pullsStandAt_11 : decode cX10_pullsStandAt 11 = .ok (.iload_n 1, 1) := by decide +kernel
theorem dX10_pullsStandAt_12 : decode cX10_pullsStandAt 12 = .ok (.istore_n 2, 1) := by decide +kernel
theorem dX10_pullsStandAt_13 : decode cX10_pullsStandAt 13 = .ok (.iload_n 2, 1) := by decide +kernel
theorem dX10_pullsStandAt_14 : decode cX10_pullsStandAt 14 = .ok (.iload_n 1, 1) := by decide +kernel
theorem dX10_pullsStandAt_15 : decode cX10_pullsStandAt 15 = .ok (.iconst 3, 1) := by decide +kernel
theorem dX10_pullsStandAt_16 : decode cX10_pullsStandAt 16 = .ok (.iadd, 1) := by decide +kernel
theorem dX10_pullsStandAt_17 : decode cX10_pullsStandAt 17 = .ok (.if_icmp .ge 35, 3) := by decide +kernel
theorem dX10_pullsStandAt_20 : decode cX10_pullsStandAt 20 = .ok (.aload_n 0, 1) := by decide +kernel
theorem dX10_pullsStandAt_21 : decode cX10_pullsStandAt 21 = .ok (.getfield 117, 3) := by decide +kernel
theorem dX10_pullsStandAt_24 : decode cX10_pullsStandAt 24 = .ok (.iload_n 2, 1) := by decide +kernel
theorem dX10_pullsStandAt_25 : decode cX10_pullsStandAt 25 = .ok (.laload, 1) := by decide +kernel
theorem dX10_pullsStandAt_26 : decode cX10_pullsStandAt 26 = .ok (.lconst 0, 1) := by decide +kernel
theorem dX10_pullsStandAt_27 : decode cX10_pullsStandAt 27 = .ok (.lcmp, 1) := by decide +kernel
theorem dX10_pullsStandAt_28 : decode cX10_pullsStandAt 28 = .ok (.ifCond .lt 16, 3) := by decide +kernel
theorem dX10_pullsStandAt_31 : decode cX10_pullsStandAt 31 = .ok (.aload_n 0, 1) := by decide +kernel
theorem dX10_pullsStandAt_32 : decode cX10_pullsStandAt 32 = .ok (.getfield 117, 3) := by decide +kernel
theorem dX10_pullsStandAt_35 : decode cX10_pullsStandAt 35 = .ok (.iload_n 2, 1) := by decide +kernel
theorem dX10_pullsStandAt_36 : decode cX10_pullsStandAt 36 = .ok (.laload, 1) := by decide +kernel
theorem dX10_pullsStandAt_37 : decode cX10_pullsStandAt 37 = .ok (.ldc2_w 399, 3) := by decide +kernel
theorem dX10_pullsStandAt_40 : decode cX10_pullsStandAt 40 = .ok (.lcmp, 1) := by decide +kernel
theorem dX10_pullsStandAt_41 : decode cX10_pullsStandAt 41 = .ok (.ifCond .le 5, 3) := by decide +kernel
theorem dX10_pullsStandAt_44 : decode cX10_pullsStandAt 44 = .ok (.iconst 0, 1) := by decide +kernel
theorem dX10_pullsStandAt_45 : decode cX10_pullsStandAt 45 = .ok (.ireturn, 1) := by decide +kernel
theorem dX10_pullsStandAt_46 : decode cX10_pullsStandAt 46 = .ok (.iinc 2 1, 3) := by decide +kernel
theorem dX10_pullsStandAt_49 : decode cX10_pullsStandAt 49 = .ok (.goto (-36), 3) := by decide +kernel
theorem dX10_pullsStandAt_52 : decode cX10_pullsStandAt 52 = .ok (.iconst 1, 1) := by decide +kernel
theorem dX10_pullsStandAt_53 : decode cX10_pullsStandAt 53 = .ok (.ireturn, 1) := by decide +kernel
def fX10_pullsStandAt_b13 : Nat → Nat → Int32 → Int32 → mS → Option Int32
  | 0, _, _, _, _ => none
  | k + 1, k0, y1, y2, s =>
    if (y1 + 3) ≤ y2 then
      some 1
    else
      ldL s (lS_cells k0) 60 y2 fun v3 =>
      if (lg_cmp v3 0) < 0 then
        some 0
      else
        ldL s (lS_cells k0) 60 y2 fun v4 =>
        if (lg_cmp v4 12) ≤ 0 then
          bnd (y2 + 1) fun v5 =>
          fX10_pullsStandAt_b13 k k0 y1 v5 s
        else
          some 0

def fX10_pullsStandAt (k0 : Nat) (x1 : Int32) (s : mS) : Option Int32 :=
  bO (fX7_hasSpan k0 x1 3 s) fun r1 =>
  if r1 = 0 then
    some 0
  else
    bnd x1 fun v2 =>
    fX10_pullsStandAt_b13 mFu k0 x1 v2 s

set_option maxRecDepth 20000 in
theorem wX10_pullsStandAt_b13 {ρ : mRo} {d : Nat} {P : mPo} {V : mS → List mE} (hV : mView LC V)  {res : Int32} {s : mS} (hP : P (some (.int res)) (V s)) : ∀ (k : Nat) (k0 : Nat) (hk0 : k0 < 6) (y1 : Int32) (y2 : Int32), fX10_pullsStandAt_b13 k k0 y1 y2 s = some res → mG ρ (mC ρ (d + 1)) 10 3 cX10_pullsStandAt (some .boolean) P 13 [(0, .ref (qS k0)), (1, .int y1), (2, .int y2)] [] (V s) := by
  intro k
  induction k with
  | zero => intro k0 hk0 y1 y2 hf; rw [fX10_pullsStandAt_b13] at hf; cases hf
  | succ k ih =>
    intro k0 hk0 y1 y2 hf
    rw [fX10_pullsStandAt_b13] at hf
    refine e_iload_n 2 dX10_pullsStandAt_13 rfl rfl ?_
    refine e_iload_n 1 dX10_pullsStandAt_14 rfl rfl ?_
    refine e_iconst (w := 3) dX10_pullsStandAt_15 (by decide) ?_
    refine e_iadd dX10_pullsStandAt_16 ?_
    refine e_icmp_ge 52 dX10_pullsStandAt_17 (by decide) hf (fun hf => ?_) (fun hf => ?_)
    · refine e_iconst (w := 1) dX10_pullsStandAt_52 (by decide) ?_
      cases hf
      exact e_iret dX10_pullsStandAt_53 (Or.inr rfl) hP
    · refine e_aload_n 0 dX10_pullsStandAt_20 rfl rfl ?_
      refine e_getr hV dX10_pullsStandAt_21 rfl (lc_S hk0) rfl ?_
      refine e_iload_n 2 dX10_pullsStandAt_24 rfl rfl ?_
      refine e_lald hV dX10_pullsStandAt_25 (lc_S_cells hk0) hf (fun v3 hf => ?_)
      refine e_lconst (w := 0) dX10_pullsStandAt_26 (by decide) ?_
      refine e_lcmp dX10_pullsStandAt_27 ?_
      refine e_if_lt 44 dX10_pullsStandAt_28 (by decide) hf (fun hf => ?_) (fun hf => ?_)
      · refine e_iconst (w := 0) dX10_pullsStandAt_44 (by decide) ?_
        cases hf
        exact e_iret dX10_pullsStandAt_45 (Or.inl rfl) hP
      · refine e_aload_n 0 dX10_pullsStandAt_31 rfl rfl ?_
        refine e_getr hV dX10_pullsStandAt_32 rfl (lc_S hk0) rfl ?_
        refine e_iload_n 2 dX10_pullsStandAt_35 rfl rfl ?_
        refine e_lald hV dX10_pullsStandAt_36 (lc_S_cells hk0) hf (fun v4 hf => ?_)
        refine e_ldc2_w (w := 12) dX10_pullsStandAt_37 rfl ?_
        refine e_lcmp dX10_pullsStandAt_40 ?_
        refine e_if_le 46 dX10_pullsStandAt_41 (by decide) hf (fun hf => ?_) (fun hf => ?_)
        · refine e_iinc 2 dX10_pullsStandAt_46 rfl rfl hf (fun v5 hf => ?_)
          refine e_goto 13 dX10_pullsStandAt_49 (by decide) ?_
          refine e_pick [1, 2, 0] rfl ?_
          exact ih k0 hk0 y1 v5 hf
        · refine e_iconst (w := 0) dX10_pullsStandAt_44 (by decide) ?_
          cases hf
          exact e_iret dX10_pullsStandAt_45 (Or.inl rfl) hP
set_option maxRecDepth 20000 in
theorem tX10_pullsStandAt {ρ : mRo} {d : Nat} {P : mPo} {V : mS → List mE} (hV : mView LC V)  {k0 : Nat} (hk0 : k0 < 6) {x1 : Int32} {s : mS} {res : Int32} (hf : fX10_pullsStandAt k0 x1 s = some res) (hP : P (some (.int res)) (V s)) : mC ρ (d + 2) 114 [.ref (qS k0), .int x1] (V s) P := by
  refine ⟨_, rfl, Nat.le_of_ble_eq_true rfl, by decide, ?_⟩
  show mG ρ (mC ρ (d + 1)) 10 3 cX10_pullsStandAt (some .boolean) P 0 [(0, .ref (qS k0)), (1, .int x1)] [] (V s)
  unfold fX10_pullsStandAt at hf
  refine e_aload_n 0 dX10_pullsStandAt_0 rfl rfl ?_
  refine e_iload_n 1 dX10_pullsStandAt_1 rfl rfl ?_
  refine e_iconst (w := 3) dX10_pullsStandAt_2 (by decide) ?_
  obtain ⟨r1, hg, hf⟩ := bO_some hf
  refine e_callV (as := [.int x1, .int 3]) (v := (some (.int r1))) (s' := s) hV dX10_pullsStandAt_3 (Or.inl rfl) rfl rfl rfl rfl (Nat.le_of_ble_eq_true rfl) (lc_S hk0) rfl rfl (fun Q hQ => tX7_hasSpan (d := d) hV hk0 hg hQ) ?_
  refine e_if_ne 11 dX10_pullsStandAt_6 (by decide) hf (fun hf => ?_) (fun hf => ?_)
  · refine e_iload_n 1 dX10_pullsStandAt_11 rfl rfl ?_
    refine e_istore_n dX10_pullsStandAt_12 rfl (by decide) hf (fun v2 hf => ?_)
    refine e_pick [1, 2, 0] rfl ?_
    exact wX10_pullsStandAt_b13 hV hP mFu k0 hk0 x1 v2 hf
  · refine e_iconst (w := 0) dX10_pullsStandAt_9 (by decide) ?_
    cases hf
    exact e_iret dX10_pullsStandAt_10 (Or.inl rfl) hP

theorem dX10_machines_0 : decode cX10_machines 0 = .ok (.iload_n 1, 1) := by decide +kernel
theorem dX10_machines_1 : decode cX10_machines 1 = .ok (.invokestatic 99, 3) := by decide +kernel
theorem dX10_machines_4 : decode cX10_machines 4 = .ok (.ifCond .eq 14, 3) := by decide +kernel
theorem dX10_machines_7 : decode cX10_machines 7 = .ok (.iload_n 3, 1) := by decide +kernel
theorem dX10_machines_8 : decode cX10_machines 8 = .ok (.iconst 1, 1) := by decide +kernel
theorem dX10_machines_9 : decode cX10_machines 9 = .ok (.if_icmp .lt 9, 3) := by decide +kernel
theorem dX10_machines_12 : decode cX10_machines 12 = .ok (.iload_n 3, 1) := by decide +kernel
theorem dX10_machines_13 : decode cX10_machines 13 = .ok (.bipush 8, 2) := by decide +kernel
theorem dX10_machines_15 : decode cX10_machines 15 = .ok (.if_icmp .le 5, 3) := by decide +kernel
theorem dX10_machines_18 : decode cX10_machines 18 = .ok (.iconst (-1), 1) := by decide +kernel
theorem dX10_machines_19 : decode cX10_machines 19 = .ok (.ireturn, 1) := by decide +kernel
theorem dX10_machines_20 : decode cX10_machines 20 = .ok (.aload_n 0, 1) := by decide +kernel
theorem dX10_machines_21 : decode cX10_machines 21 = .ok (.getfield 42, 3) := by decide +kernel
theorem dX10_machines_24 : decode cX10_machines 24 = .ok (.iload_n 1, 1) := by decide +kernel
theorem dX10_machines_25 : decode cX10_machines 25 = .ok (.aaload, 1) := by decide +kernel
theorem dX10_machines_26 : decode cX10_machines 26 = .ok (.astore 4, 2) := by decide +kernel
theorem dX10_machines_28 : decode cX10_machines 28 = .ok (.aload 4, 2) := by decide +kernel
theorem dX10_machines_30 : decode cX10_machines 30 = .ok (.invokevirtual 103, 3) := by decide +kernel
theorem dX10_machines_33 : decode cX10_machines 33 = .ok (.ifCond .eq 5, 3) := by decide +kernel
theorem dX10_machines_36 : decode cX10_machines 36 = .ok (.iconst 0, 1) := by decide +kernel
theorem dX10_machines_37 : decode cX10_machines 37 = .ok (.ireturn, 1) := by decide +kernel
theorem dX10_machines_38 : decode cX10_machines 38 = .ok (.aload 4, 2) := by decide +kernel
theorem dX10_machines_40 : decode cX10_machines 40 = .ok (.iconst 0, 1) := by decide +kernel
theorem dX10_machines_41 : decode cX10_machines 41 = .ok (.invokevirtual 106, 3) := by decide +kernel
theorem dX10_machines_44 : decode cX10_machines 44 = .ok (.ifCond .ne 6, 3) := by decide +kernel
theorem dX10_machines_47 : decode cX10_machines 47 = .ok (.bipush (-12), 2) := by decide +kernel
theorem dX10_machines_49 : decode cX10_machines 49 = .ok (.ireturn, 1) := by decide +kernel
theorem dX10_machines_50 : decode cX10_machines 50 = .ok (.iconst 0, 1) := by decide +kernel
theorem dX10_machines_51 : decode cX10_machines 51 = .ok (.istore 5, 2) := by decide +kernel
theorem dX10_machines_53 : decode cX10_machines 53 = .ok (.iload 5, 2) := by decide +kernel
theorem dX10_machines_55 : decode cX10_machines 55 = .ok (.iload_n 3, 1) := by decide +kernel
theorem dX10_machines_56 : decode cX10_machines 56 = .ok (.if_icmp .ge 89, 3) := by decide +kernel
theorem dX10_machines_59 : decode cX10_machines 59 = .ok (.iload_n 2, 1) := by decide +kernel
theorem dX10_machines_60 : decode cX10_machines 60 = .ok (.aload 4, 2) := by decide +kernel
theorem dX10_machines_62 : decode cX10_machines 62 = .ok (.getfield 109, 3) := by decide +kernel
theorem dX10_machines_65 : decode cX10_machines 65 = .ok (.if_icmp .ge 80, 3) := by decide +kernel
theorem dX10_machines_68 : decode cX10_machines 68 = .ok (.aload_n 0, 1) := by decide +kernel
theorem dX10_machines_69 : decode cX10_machines 69 = .ok (.getfield 10, 3) := by decide +kernel
theorem dX10_machines_72 : decode cX10_machines 72 = .ok (.invokevirtual 91, 3) := by decide +kernel
theorem dX10_machines_75 : decode cX10_machines 75 = .ok (.ifCond .ne 70, 3) := by decide +kernel
theorem dX10_machines_78 : decode cX10_machines 78 = .ok (.aload 4, 2) := by decide +kernel
theorem dX10_machines_80 : decode cX10_machines 80 = .ok (.iload_n 2, 1) := by decide +kernel
theorem dX10_machines_81 : decode cX10_machines 81 = .ok (.iconst 3, 1) := by decide +kernel
theorem dX10_machines_82 : decode cX10_machines 82 = .ok (.iload 5, 2) := by decide +kernel
theorem dX10_machines_84 : decode cX10_machines 84 = .ok (.imul, 1) := by decide +kernel
theorem dX10_machines_85 : decode cX10_machines 85 = .ok (.iadd, 1) := by decide +kernel
theorem dX10_machines_86 : decode cX10_machines 86 = .ok (.invokestatic 113, 3) := by decide +kernel
theorem dX10_machines_89 : decode cX10_machines 89 = .ok (.ifCond .eq 56, 3) := by decide +kernel
theorem dX10_machines_92 : decode cX10_machines 92 = .ok (.iload_n 2, 1) := by decide +kernel
theorem dX10_machines_93 : decode cX10_machines 93 = .ok (.iconst 3, 1) := by decide +kernel
theorem dX10_machines_94 : decode cX10_machines 94 = .ok (.iload 5, 2) := by decide +kernel
theorem dX10_machines_96 : decode cX10_machines 96 = .ok (.imul, 1) := by decide +kernel
theorem dX10_machines_97 : decode cX10_machines 97 = .ok (.iadd, 1) := by decide +kernel
theorem dX10_machines_98 : decode cX10_machines 98 = .ok (.istore 6, 2) := by decide +kernel
theorem dX10_machines_100 : decode cX10_machines 100 = .ok (.aload_n 0, 1) := by decide +kernel
theorem dX10_machines_101 : decode cX10_machines 101 = .ok (.getfield 10, 3) := by decide +kernel
theorem dX10_machines_104 : decode cX10_machines 104 = .ok (.aload 4, 2) := by decide +kernel
theorem dX10_machines_106 : decode cX10_machines 106 = .ok (.getfield 117, 3) := by decide +kernel
theorem dX10_machines_109 : decode cX10_machines 109 = .ok (.iload 6, 2) := by decide +kernel
theorem dX10_machines_111 : decode cX10_machines 111 = .ok (.laload, 1) := by decide +kernel
theorem dX10_machines_112 : decode cX10_machines 112 = .ok (.l2i, 1) := by decide +kernel
theorem dX10_machines_113 : decode cX10_machines 113 = .ok (.aload 4, 2) := by decide +kernel
theorem dX10_machines_115 : decode cX10_machines 115 = .ok (.getfield 117, 3) := by decide +kernel
theorem dX10_machines_118 : decode cX10_machines 118 = .ok (.iload 6, 2) := by decide +kernel
theorem dX10_machines_120 : decode cX10_machines 120 = .ok (.iconst 1, 1) := by decide +kernel
theorem dX10_machines_121 : decode cX10_machines 121 = .ok (.iadd, 1) := by decide +kernel
theorem dX10_machines_122 : decode cX10_machines 122 = .ok (.laload, 1) := by decide +kernel
theorem dX10_machines_123 : decode cX10_machines 123 = .ok (.l2i, 1) := by decide +kernel
theorem dX10_machines_124 : decode cX10_machines 124 = .ok (.aload 4, 2) := by decide +kernel
theorem dX10_machines_126 : decode cX10_machines 126 = .ok (.getfield 117, 3) := by decide +kernel
theorem dX10_machines_129 : decode cX10_machines 129 = .ok (.iload 6, 2) := by decide +kernel
theorem dX10_machines_131 : decode cX10_machines 131 = .ok (.iconst 2, 1) := by decide +kernel
theorem dX10_machines_132 : decode cX10_machines 132 = .ok (.iadd, 1) := by decide +kernel
theorem dX10_machines_133 : decode cX10_machines 133 = .ok (.laload, 1) := by decide +kernel
theorem dX10_machines_134 : decode cX10_machines 134 = .ok (.l2i, 1) := by decide +kernel
theorem dX10_machines_135 : decode cX10_machines 135 = .ok (.invokevirtual 95, 3) := by decide +kernel
theorem dX10_machines_138 : decode cX10_machines 138 = .ok (.pop, 1) := by decide +kernel
theorem dX10_machines_139 : decode cX10_machines 139 = .ok (.iinc 5 1, 3) := by decide +kernel
theorem dX10_machines_142 : decode cX10_machines 142 = .ok (.goto (-89), 3) := by decide +kernel
theorem dX10_machines_145 : decode cX10_machines 145 = .ok (.iload 5, 2) := by decide +kernel
theorem dX10_machines_147 : decode cX10_machines 147 = .ok (.ireturn, 1) := by decide +kernel
def fX10_machines_b53 : Nat → Nat → Int32 → Int32 → Int32 → mS → Option (Int32 × mS)
  | 0, _, _, _, _, _ => none
  | k + 1, j2, y2, y3, y5, s =>
    if y3 ≤ y5 then
      some (y5, s)
    else
      if (gI s (iS_size j2)) ≤ y2 then
        some (y5, s)
      else
        bO (fX6_isFull 0 s) fun r6 =>
        if r6 = 0 then
          bO (fX10_pullsStandAt j2 (y2 + (3 * y5)) s) fun r7 =>
          if r7 = 0 then
            some (y5, s)
          else
            bnd (y2 + (3 * y5)) fun v8 =>
            ldL s (lS_cells j2) 60 v8 fun v9 =>
            ldL s (lS_cells j2) 60 (v8 + 1) fun v10 =>
            ldL s (lS_cells j2) 60 (v8 + 2) fun v11 =>
            bP (fX6_join 0 (Int64.toInt32 v9) (Int64.toInt32 v10) (Int64.toInt32 v11) s) fun r12 s13 =>
            bnd (y5 + 1) fun v14 =>
            fX10_machines_b53 k j2 y2 y3 v14 s13
        else
          some (y5, s)

def fX10_machines (x1 : Int32) (x2 : Int32) (x3 : Int32) (s : mS) : Option (Int32 × mS) :=
  bO (fX10_isShelf x1 s) fun r1 =>
  if r1 = 0 then
    some ((-1), s)
  else
    if x3 < 1 then
      some ((-1), s)
    else
      if x3 ≤ 8 then
        ldS 6 x1 fun j2 =>
        bO (fX7_isEmpty j2 s) fun r3 =>
        if r3 = 0 then
          bO (fX7_isRowOf j2 0 s) fun r4 =>
          if r4 = 0 then
            some ((-12), s)
          else
            bnd 0 fun v5 =>
            fX10_machines_b53 mFu j2 x2 x3 v5 s
        else
          some (0, s)
      else
        some ((-1), s)

set_option maxRecDepth 20000 in
theorem wX10_machines_b53 {ρ : mRo} {d : Nat} {P : mPo} {V : mS → List mE} (hV : mView LC V)  {res : (Int32 × mS)} (hP : P (some (.int res.1)) (V res.2)) : ∀ (k : Nat) (j2 : Nat) (hj2 : j2 < 6) (y2 : Int32) (y3 : Int32) (y5 : Int32) (s : mS), fX10_machines_b53 k j2 y2 y3 y5 s = some res → mG ρ (mC ρ (d + 2)) 10 7 cX10_machines (some .int) P 53 [(0, .ref qT), (2, .int y2), (3, .int y3), (4, .ref (qS j2)), (5, .int y5)] [] (V s) := by
  intro k
  induction k with
  | zero => intro j2 hj2 y2 y3 y5 s hf; rw [fX10_machines_b53] at hf; cases hf
  | succ k ih =>
    intro j2 hj2 y2 y3 y5 s hf
    rw [fX10_machines_b53] at hf
    refine e_iload 4 dX10_machines_53 rfl ?_
    refine e_iload_n 2 dX10_machines_55 rfl rfl ?_
    refine e_icmp_ge 145 dX10_machines_56 (by decide) hf (fun hf => ?_) (fun hf => ?_)
    · refine e_iload 4 dX10_machines_145 rfl ?_
      cases hf
      exact e_iret dX10_machines_147 trivial hP
    · refine e_iload_n 1 dX10_machines_59 rfl rfl ?_
      refine e_aload 3 dX10_machines_60 rfl ?_
      refine e_geti hV dX10_machines_62 rfl (lc_S hj2) rfl ?_
      refine e_icmp_ge 145 dX10_machines_65 (by decide) hf (fun hf => ?_) (fun hf => ?_)
      · refine e_iload 4 dX10_machines_145 rfl ?_
        cases hf
        exact e_iret dX10_machines_147 trivial hP
      · refine e_aload_n 0 dX10_machines_68 rfl rfl ?_
        refine e_getr hV dX10_machines_69 rfl lc_T rfl ?_
        obtain ⟨r6, hg, hf⟩ := bO_some hf
        refine e_callV (as := []) (v := (some (.int r6))) (s' := s) hV dX10_machines_72 (Or.inl rfl) rfl rfl rfl rfl (Nat.le_of_ble_eq_true rfl) (lc_M (by decide)) rfl rfl (fun Q hQ => tX6_isFull (d := (d + 1)) hV (by decide) hg hQ) ?_
        refine e_if_ne 145 dX10_machines_75 (by decide) hf (fun hf => ?_) (fun hf => ?_)
        · refine e_iload 4 dX10_machines_145 rfl ?_
          cases hf
          exact e_iret dX10_machines_147 trivial hP
        · refine e_aload 3 dX10_machines_78 rfl ?_
          refine e_iload_n 1 dX10_machines_80 rfl rfl ?_
          refine e_iconst (w := 3) dX10_machines_81 (by decide) ?_
          refine e_iload 4 dX10_machines_82 rfl ?_
          refine e_imul dX10_machines_84 ?_
          refine e_iadd dX10_machines_85 ?_
          obtain ⟨r7, hg, hf⟩ := bO_some hf
          refine e_callS (as := [.ref (qS j2), .int (y2 + (3 * y5))]) (v := (some (.int r7))) (s' := s) dX10_machines_86 rfl rfl rfl rfl rfl (Nat.le_of_ble_eq_true rfl) (fun Q hQ => tX10_pullsStandAt (d := d) hV hj2 hg hQ) ?_
          refine e_if_eq 145 dX10_machines_89 (by decide) hf (fun hf => ?_) (fun hf => ?_)
          · refine e_iload 4 dX10_machines_145 rfl ?_
            cases hf
            exact e_iret dX10_machines_147 trivial hP
          · refine e_iload_n 1 dX10_machines_92 rfl rfl ?_
            refine e_iconst (w := 3) dX10_machines_93 (by decide) ?_
            refine e_iload 4 dX10_machines_94 rfl ?_
            refine e_imul dX10_machines_96 ?_
            refine e_iadd dX10_machines_97 ?_
            refine e_istore dX10_machines_98 (by decide) hf (fun v8 hf => ?_)
            refine e_aload_n 1 dX10_machines_100 rfl rfl ?_
            refine e_getr hV dX10_machines_101 rfl lc_T rfl ?_
            refine e_aload 4 dX10_machines_104 rfl ?_
            refine e_getr hV dX10_machines_106 rfl (lc_S hj2) rfl ?_
            refine e_iload 0 dX10_machines_109 rfl ?_
            refine e_lald hV dX10_machines_111 (lc_S_cells hj2) hf (fun v9 hf => ?_)
            refine e_l2i dX10_machines_112 ?_
            refine e_aload 4 dX10_machines_113 rfl ?_
            refine e_getr hV dX10_machines_115 rfl (lc_S hj2) rfl ?_
            refine e_iload 0 dX10_machines_118 rfl ?_
            refine e_iconst (w := 1) dX10_machines_120 (by decide) ?_
            refine e_iadd dX10_machines_121 ?_
            refine e_lald hV dX10_machines_122 (lc_S_cells hj2) hf (fun v10 hf => ?_)
            refine e_l2i dX10_machines_123 ?_
            refine e_aload 4 dX10_machines_124 rfl ?_
            refine e_getr hV dX10_machines_126 rfl (lc_S hj2) rfl ?_
            refine e_iload 0 dX10_machines_129 rfl ?_
            refine e_iconst (w := 2) dX10_machines_131 (by decide) ?_
            refine e_iadd dX10_machines_132 ?_
            refine e_lald hV dX10_machines_133 (lc_S_cells hj2) hf (fun v11 hf => ?_)
            refine e_l2i dX10_machines_134 ?_
            obtain ⟨r12, s13, hg, hf⟩ := bP_some hf
            refine e_callV (as := [.int (Int64.toInt32 v9), .int (Int64.toInt32 v10), .int (Int64.toInt32 v11)]) (v := (some (.int r12))) (s' := s13) hV dX10_machines_135 (Or.inl rfl) rfl rfl rfl rfl (Nat.le_of_ble_eq_true rfl) (lc_M (by decide)) rfl rfl (fun Q hQ => tX6_join (d := d) hV (by decide) hg hQ) ?_
            refine e_pop dX10_machines_138 rfl ?_
            refine e_iinc 5 dX10_machines_139 rfl rfl hf (fun v14 hf => ?_)
            refine e_goto 53 dX10_machines_142 (by decide) ?_
            refine e_pick [2, 3, 4, 5, 0] rfl ?_
            exact ih j2 hj2 y2 y3 v14 s13 hf
set_option maxRecDepth 20000 in
theorem tX10_machines {ρ : mRo} {d : Nat} {P : mPo} {V : mS → List mE} (hV : mView LC V)  {x1 : Int32} {x2 : Int32} {x3 : Int32} {s : mS} {res : (Int32 × mS)} (hf : fX10_machines x1 x2 x3 s = some res) (hP : P (some (.int res.1)) (V res.2)) : mC ρ (d + 3) 65 [.ref qT, .int x1, .int x2, .int x3] (V s) P := by
  refine ⟨_, rfl, Nat.le_of_ble_eq_true rfl, by decide, ?_⟩
  show mG ρ (mC ρ (d + 2)) 10 7 cX10_machines (some .int) P 0 [(0, .ref qT), (1, .int x1), (2, .int x2), (3, .int x3)] [] (V s)
  unfold fX10_machines at hf
  refine e_iload_n 1 dX10_machines_0 rfl rfl ?_
  obtain ⟨r1, hg, hf⟩ := bO_some hf
  refine e_callS (as := [.int x1]) (v := (some (.int r1))) (s' := s) dX10_machines_1 rfl rfl rfl rfl rfl (Nat.le_of_ble_eq_true rfl) (fun Q hQ => tX10_isShelf (d := (d + 1)) hV  hg hQ) ?_
  refine e_if_eq 18 dX10_machines_4 (by decide) hf (fun hf => ?_) (fun hf => ?_)
  · refine e_iconst (w := (-1)) dX10_machines_18 (by decide) ?_
    cases hf
    exact e_iret dX10_machines_19 trivial hP
  · refine e_iload_n 3 dX10_machines_7 rfl rfl ?_
    refine e_iconst (w := 1) dX10_machines_8 (by decide) ?_
    refine e_icmp_lt 18 dX10_machines_9 (by decide) hf (fun hf => ?_) (fun hf => ?_)
    · refine e_iconst (w := (-1)) dX10_machines_18 (by decide) ?_
      cases hf
      exact e_iret dX10_machines_19 trivial hP
    · refine e_iload_n 3 dX10_machines_12 rfl rfl ?_
      refine e_bipush (w := 8) dX10_machines_13 (by decide) ?_
      refine e_icmp_le 20 dX10_machines_15 (by decide) hf (fun hf => ?_) (fun hf => ?_)
      · refine e_aload_n 0 dX10_machines_20 rfl rfl ?_
        refine e_getr hV dX10_machines_21 rfl lc_T rfl ?_
        refine e_iload_n 1 dX10_machines_24 rfl rfl ?_
        refine e_aald hV dX10_machines_25 lc_T_shelves rfl lc_T_shelves_at hf (fun j2 hj2 hf => ?_)
        refine e_astore dX10_machines_26 (by decide) ?_
        refine e_aload 0 dX10_machines_28 rfl ?_
        obtain ⟨r3, hg, hf⟩ := bO_some hf
        refine e_callV (as := []) (v := (some (.int r3))) (s' := s) hV dX10_machines_30 (Or.inl rfl) rfl rfl rfl rfl (Nat.le_of_ble_eq_true rfl) (lc_S hj2) rfl rfl (fun Q hQ => tX7_isEmpty (d := (d + 1)) hV hj2 hg hQ) ?_
        refine e_if_eq 38 dX10_machines_33 (by decide) hf (fun hf => ?_) (fun hf => ?_)
        · refine e_aload 0 dX10_machines_38 rfl ?_
          refine e_iconst (w := 0) dX10_machines_40 (by decide) ?_
          obtain ⟨r4, hg, hf⟩ := bO_some hf
          refine e_callV (as := [.int 0]) (v := (some (.int r4))) (s' := s) hV dX10_machines_41 (Or.inl rfl) rfl rfl rfl rfl (Nat.le_of_ble_eq_true rfl) (lc_S hj2) rfl rfl (fun Q hQ => tX7_isRowOf (d := (d + 1)) hV hj2 hg hQ) ?_
          refine e_if_ne 50 dX10_machines_44 (by decide) hf (fun hf => ?_) (fun hf => ?_)
          · refine e_iconst (w := 0) dX10_machines_50 (by decide) ?_
            refine e_istore dX10_machines_51 (by decide) hf (fun v5 hf => ?_)
            refine e_pick [2, 4, 5, 1, 0] rfl ?_
            exact wX10_machines_b53 hV hP mFu j2 hj2 x2 x3 v5 s hf
          · refine e_bipush (w := (-12)) dX10_machines_47 (by decide) ?_
            cases hf
            exact e_iret dX10_machines_49 trivial hP
        · refine e_iconst (w := 0) dX10_machines_36 (by decide) ?_
          cases hf
          exact e_iret dX10_machines_37 trivial hP
      · refine e_iconst (w := (-1)) dX10_machines_18 (by decide) ?_
        cases hf
        exact e_iret dX10_machines_19 trivial hP

theorem dX10_writer_0 : decode cX10_writer 0 = .ok (.iload_n 1, 1) := by decide +kernel
theorem dX10_writer_1 : decode cX10_writer 1 = .ok (.invokestatic 121, 3) := by decide +kernel
theorem dX10_writer_4 : decode cX10_writer 4 = .ok (.ifCond .ne 5, 3) := by decide +kernel
theorem dX10_writer_7 : decode cX10_writer 7 = .ok (.iconst (-1), 1) := by decide +kernel
theorem dX10_writer_8 : decode cX10_writer 8 = .ok (.ireturn, 1) := by decide +kernel
theorem dX10_writer_9 : decode cX10_writer 9 = .ok (.aload_n 0, 1) := by decide +kernel
theorem dX10_writer_10 : decode cX10_writer 10 = .ok (.getfield 22, 3) := by decide +kernel
theorem dX10_writer_13 : decode cX10_writer 13 = .ok (.invokevirtual 126, 3) := by decide +kernel
theorem dX10_writer_16 : decode cX10_writer 16 = .ok (.ifCond .eq 8, 3) := by decide +kernel
theorem dX10_writer_19 : decode cX10_writer 19 = .ok (.bipush (-3), 2) := by decide +kernel
theorem dX10_writer_21 : decode cX10_writer 21 = .ok (.goto 11, 3) := by decide +kernel
theorem dX10_writer_24 : decode cX10_writer 24 = .ok (.aload_n 0, 1) := by decide +kernel
theorem dX10_writer_25 : decode cX10_writer 25 = .ok (.getfield 22, 3) := by decide +kernel
theorem dX10_writer_28 : decode cX10_writer 28 = .ok (.iload_n 1, 1) := by decide +kernel
theorem dX10_writer_29 : decode cX10_writer 29 = .ok (.invokevirtual 127, 3) := by decide +kernel
theorem dX10_writer_32 : decode cX10_writer 32 = .ok (.ireturn, 1) := by decide +kernel
def fX10_writer (x1 : Int32) (s : mS) : Option (Int32 × mS) :=
  bO (fX2_isCode x1 s) fun r1 =>
  if r1 = 0 then
    some ((-1), s)
  else
    bO (fX9_isFull 0 s) fun r2 =>
    if r2 = 0 then
      bP (fX9_join 0 x1 s) fun r3 s4 =>
      some (r3, s4)
    else
      some ((-3), s)

set_option maxRecDepth 20000 in
theorem tX10_writer {ρ : mRo} {d : Nat} {P : mPo} {V : mS → List mE} (hV : mView LC V)  {x1 : Int32} {s : mS} {res : (Int32 × mS)} (hf : fX10_writer x1 s = some res) (hP : P (some (.int res.1)) (V res.2)) : mC ρ (d + 3) 66 [.ref qT, .int x1] (V s) P := by
  refine ⟨_, rfl, Nat.le_of_ble_eq_true rfl, by decide, ?_⟩
  show mG ρ (mC ρ (d + 2)) 10 2 cX10_writer (some .int) P 0 [(0, .ref qT), (1, .int x1)] [] (V s)
  unfold fX10_writer at hf
  refine e_iload_n 1 dX10_writer_0 rfl rfl ?_
  obtain ⟨r1, hg, hf⟩ := bO_some hf
  refine e_callS (as := [.int x1]) (v := (some (.int r1))) (s' := s) dX10_writer_1 rfl rfl rfl rfl rfl (Nat.le_of_ble_eq_true rfl) (fun Q hQ => tX2_isCode (d := (d + 1)) hV  hg hQ) ?_
  refine e_if_ne 9 dX10_writer_4 (by decide) hf (fun hf => ?_) (fun hf => ?_)
  · refine e_aload_n 0 dX10_writer_9 rfl rfl ?_
    refine e_getr hV dX10_writer_10 rfl lc_T rfl ?_
    obtain ⟨r2, hg, hf⟩ := bO_some hf
    refine e_callV (as := []) (v := (some (.int r2))) (s' := s) hV dX10_writer_13 (Or.inl rfl) rfl rfl rfl rfl (Nat.le_of_ble_eq_true rfl) (lc_W (by decide)) rfl rfl (fun Q hQ => tX9_isFull (d := (d + 1)) hV (by decide) hg hQ) ?_
    refine e_if_eq 24 dX10_writer_16 (by decide) hf (fun hf => ?_) (fun hf => ?_)
    · refine e_aload_n 0 dX10_writer_24 rfl rfl ?_
      refine e_getr hV dX10_writer_25 rfl lc_T rfl ?_
      refine e_iload_n 1 dX10_writer_28 rfl rfl ?_
      obtain ⟨r3, s4, hg, hf⟩ := bP_some hf
      refine e_callV (as := [.int x1]) (v := (some (.int r3))) (s' := s4) hV dX10_writer_29 (Or.inl rfl) rfl rfl rfl rfl (Nat.le_of_ble_eq_true rfl) (lc_W (by decide)) rfl rfl (fun Q hQ => tX9_join (d := d) hV (by decide) hg hQ) ?_
      cases hf
      exact e_iret dX10_writer_32 trivial hP
    · refine e_bipush (w := (-3)) dX10_writer_19 (by decide) ?_
      refine e_goto 32 dX10_writer_21 (by decide) ?_
      cases hf
      exact e_iret dX10_writer_32 trivial hP
  · refine e_iconst (w := (-1)) dX10_writer_7 (by decide) ?_
    cases hf
    exact e_iret dX10_writer_8 trivial hP
